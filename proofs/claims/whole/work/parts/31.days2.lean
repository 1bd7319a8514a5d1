/-! THE DAYS, the loop. -/
def FXb (h h' : Hp) : Prop := ∀ r, (r ≤ 10 ∨ 16 ≤ r) → h'.1 r = h.1 r
def FMb (h h' : Hp) : Prop := (∀ q, q ≠ 0 → q ≠ 2 → h'.1 q = h.1 q) ∧ ∀ j, j ≤ 6 → h'.1 0 j = h.1 0 j
def WorR (hx hm : Hp) : Prop := hx.1 11 4 = hm.1 0 7 ∧ hx.1 12 4 = hm.1 0 8 ∧ ((hm.1 0 7 = -6 ∧ hm.1 0 8 = -6) ∨ ((∃ b : Nat, b ≤ 60 ∧ hm.1 0 7 = nI b) ∧ ∃ w : Nat, w ≤ 100 ∧ hm.1 0 8 = nI w))
def InvD (hx hm : Hp) (a : Nat) : Prop := hx.1 11 1 = nI a ∧ hm.1 0 10 = nI a ∧ hx.1 11 2 = -6 ∧ hx.1 11 3 = -6 ∧ WorR hx hm
def OutD (hx hm : Hp) (r : Int32) : Prop := (r = -6 ∧ hx.1 11 2 = -6 ∧ hx.1 11 3 = -6 ∧ hx.1 11 1 = hm.1 0 10 ∧ hx.1 11 4 = hm.1 0 7 ∧ hx.1 12 4 = hm.1 0 8) ∨ (∃ a : Nat, a ≤ 60 ∧ r = nI a ∧ hx.1 11 2 = nI a ∧ hx.1 11 3 = hm.1 0 9)
theorem TrS.of {hx hm hx' hm' : Hp} {t : Nat} (h : TrS hx hm t) (h12 : hx'.1 12 3 = hx.1 12 3) (h13 : hx'.1 13 = hx.1 13) (h14 : hx'.1 14 = hx.1 14) (h15 : hx'.1 15 = hx.1 15) (h2 : hm'.1 2 = hm.1 2) (h0 : hm'.1 0 2 = hm.1 0 2) : TrS hx' hm' t := by
  refine ⟨?_, by rw [h0]; exact h.2⟩
  rw [h12, h13, h14, h15, h2]
  exact h.1
theorem PadOK.of {hx hm hx' hm' : Hp} {c : Nat → Nat} {n : Nat} (h : PadOK hx hm c n) (h1 : hx'.1 9 1 = hx.1 9 1) (h2 : hm'.1 0 5 = hm.1 0 5) (h3 : hx'.1 10 = hx.1 10) (h4 : hm'.1 4 = hm.1 4) : PadOK hx' hm' c n := by
  refine ⟨h.1, by rw [h1]; exact h.2.1, by rw [h2]; exact h.2.2.1, fun i hi => ?_⟩
  rw [h3, h4]
  exact h.2.2.2 i hi
theorem worn_step {hx hm hx1 hm1 : Hp} {a : Nat} (ha : a < 60) (hI : InvD hx hm a) (e11 : hx1.1 11 = hx.1 11) (h9 : (hm1.1 0 7 = hm.1 0 7 ∧ hm1.1 0 8 = hm.1 0 8 ∧ hx1.1 12 4 = hx.1 12 4) ∨ (hm.1 0 7 = -6 ∧ ∃ w : Nat, w ≤ 100 ∧ hm1.1 0 7 = hm.1 0 10 ∧ hm1.1 0 8 = nI w ∧ hx1.1 12 4 = nI w)) :
    ∃ hx2, (if (hx1.1 11 4) = (-6 : Int32) then (if (hx1.1 12 4) = (-6 : Int32) then some hx1 else some (ip hx1 11 4 (nI a))) else some hx1) = some hx2 ∧ WorR hx2 hm1 ∧ (∀ q, q ≠ 11 → hx2.1 q = hx1.1 q) ∧ ∀ j, j ≠ 4 → hx2.1 11 j = hx.1 11 j := by
  obtain ⟨i1, i2, i3, i4, w1, w2, w3⟩ := hI
  rcases h9 with ⟨a1, a2, a3⟩ | ⟨a0, w, hw, a1, a2, a3⟩
  · refine ⟨hx1, ?_, ⟨by rw [e11, a1]; exact w1, by rw [a3, a2]; exact w2, by rw [a1, a2]; exact w3⟩, fun q _ => rfl, fun j _ => by rw [e11]⟩
    rcases w3 with ⟨b1, b2⟩ | ⟨⟨b, b0, b1⟩, -⟩
    · rw [if_pos (by rw [e11, w1, b1]), if_pos (by rw [a3, w2, b2])]
    · rw [if_neg (by rw [e11, w1, b1]; exact neg6 (by omega))]
  · refine ⟨ip hx1 11 4 (nI a), ?_, ⟨by rw [ip_s, a1, i2], by rw [ip_row _ _ _ _ (by omega), a2]; exact a3, Or.inr ⟨⟨a, by omega, a1.trans i2⟩, ⟨w, hw, a2⟩⟩⟩, fun q hq => ip_row _ _ _ _ hq, fun j hj => by rw [ip_n _ _ _ _ (Or.inr hj), e11]⟩
    rw [if_pos (by rw [e11, w1, a0]), if_neg (by rw [a3]; exact neg6 (by omega))]
theorem FXb.rf (h : Hp) : FXb h h := fun _ _ => rfl
theorem FMb.rf (h : Hp) : FMb h h := ⟨fun _ _ _ => rfl, fun _ _ => rfl⟩
theorem days_loop {c : Nat → Nat} {n t : Nat} : ∀ (d s a f g : Nat) (hx hm : Hp), PadOK hx hm c n → TrS hx hm t → n - s ≤ d → s ≤ 65 → a ≤ s → d < f → d < g → flt c n (d + 1) s = none → InvD hx hm a →
    ∃ hx' hm' r, f_X4_follow_l10 1 (fun (w12 : Int32) (w13 : Int32) (h14 : Hp) => some h14) f (nI s) (nI a) hx = some hx' ∧ f_X6_goDays_l11 (fun (w44 : Int32) (h45 : Hp) => some ((-6 : Int32), h45)) g (nI s) hm = some (r, hm') ∧ TrS hx' hm' t ∧ FXb hx hx' ∧ FMb hm hm' ∧ OutD hx' hm' r := by
  intro d
  induction d with
  | zero =>
    intro s a f g hx hm hP hT hd hs ha hf hg hn hI
    obtain ⟨f, rfl⟩ : ∃ f', f = f' + 1 := ⟨f - 1, by omega⟩
    obtain ⟨g, rfl⟩ : ∃ g', g = g' + 1 := ⟨g - 1, by omega⟩
    have hn6 := hP.1
    refine ⟨hx, hm, -6, ?_, ?_, hT, FXb.rf _, FMb.rf _, Or.inl ⟨rfl, hI.2.2.1, hI.2.2.2.1, hI.1.trans hI.2.1.symm, hI.2.2.2.2.1, hI.2.2.2.2.2.1⟩⟩
    · rw [f_X4_follow_l10, hP.2.1, if_pos (nI_le (show n ≤ s by omega) (by omega))]
      by_cases h60 : (60 : Int32) ≤ nI a
      · rw [if_pos h60]
      · rw [if_neg h60]
    · rw [M_step, hP.2.2.1, if_pos (nI_le (show n ≤ s by omega) (by omega))]
  | succ d ih =>
    intro s a f g hx hm hP hT hd hs ha hf hg hn hI
    obtain ⟨f, rfl⟩ : ∃ f', f = f' + 1 := ⟨f - 1, by omega⟩
    obtain ⟨g, rfl⟩ : ∃ g', g = g' + 1 := ⟨g - 1, by omega⟩
    have hn6 := hP.1
    by_cases hb : n ≤ s
    · refine ⟨hx, hm, -6, ?_, ?_, hT, FXb.rf _, FMb.rf _, Or.inl ⟨rfl, hI.2.2.1, hI.2.2.2.1, hI.1.trans hI.2.1.symm, hI.2.2.2.2.1, hI.2.2.2.2.2.1⟩⟩
      · rw [f_X4_follow_l10, hP.2.1, if_pos (nI_le (show n ≤ s by omega) (by omega))]
        by_cases h60 : (60 : Int32) ≤ nI a
        · rw [if_pos h60]
        · rw [if_neg h60]
      · rw [M_step, hP.2.2.1, if_pos (nI_le (show n ≤ s by omega) (by omega))]
    · rw [flt, if_neg hb] at hn
      have hE : errA c n s = none := by
        cases hq : errA c n s with
        | none => rfl
        | some r => rw [hq] at hn; cases hn
      rw [hE] at hn
      have hn' : flt c n (d + 1) (s + lenC (c s)) = none := hn
      have hl := lenC_le (c s)
      have hl0 : lenC (c s) ≠ 0 := by
        intro q
        unfold errA at hE
        rw [if_pos q] at hE
        cases hE
      have hW : (hm.1 0 7 = -6 ∧ hx.1 12 4 = -6) ∨ ((∃ b : Nat, b ≤ 60 ∧ hm.1 0 7 = nI b) ∧ ∃ w : Nat, w ≤ 100 ∧ hx.1 12 4 = nI w) := by
        obtain ⟨-, -, -, -, w1, w2, w3⟩ := hI
        rw [w2]
        exact w3
      obtain ⟨r, hx1, hm1, t1, t2, t3, t4, t5, t6, t7, t8⟩ := take_same hP hT (show s < n by omega) hE hW
      have e11 : hx1.1 11 = hx.1 11 := t4 11 (by omega) (by omega) (by omega) (by omega)
      rw [f_X4_follow_l10, hP.2.1, if_neg (show ¬ (60 : Int32) ≤ nI a from nI_ge (b := 60) (by omega) (by omega)), if_neg (nI_ge (show s < n by omega) (by omega)), t1]
      rw [M_step, hP.2.2.1, if_neg (nI_ge (show s < n by omega) (by omega)), ald_ok _ _ (show s < 60 by omega) (by omega), (hP.2.2.2 s (by omega)).2.1]
      simp only [obs]
      rw [t2]
      simp only [obs]
      rw [t7]
      rcases t8 with ⟨k, k1, k7, rfl⟩ | ⟨rfl, h9⟩
      · rw [if_neg (nzn (show k < 2 ^ 31 by omega) (by omega)), if_neg (show ¬ nI k ≤ 0 from nI_ge (b := k) (a := 0) (by omega) (by omega))]
        refine ⟨_, hm1, _, rfl, rfl, t3.of ?_ ?_ ?_ ?_ rfl rfl, fun q hq => ?_, ⟨t5, fun j hj => t6 j (by omega) (by omega) (by omega)⟩, Or.inr ⟨a, by omega, ?_, ?_, ?_⟩⟩
        · rw [ip_row _ 11 _ _ (by omega), ip_row _ 11 _ _ (by omega)]
        · rw [ip_row _ 11 _ _ (by omega), ip_row _ 11 _ _ (by omega)]
        · rw [ip_row _ 11 _ _ (by omega), ip_row _ 11 _ _ (by omega)]
        · rw [ip_row _ 11 _ _ (by omega), ip_row _ 11 _ _ (by omega)]
        · rw [ip_row _ 11 _ _ (by omega), ip_row _ 11 _ _ (by omega)]
          exact t4 q (by omega) (by omega) (by omega) (by omega)
        · rw [t6 10 (by omega) (by omega) (by omega)]; exact hI.2.1
        · rw [ip_n _ 11 _ _ (Or.inr (by omega)), ip_s]
        · rw [ip_s, t7]
      · rw [if_pos rfl, if_pos (show (0 : Int32) ≤ 0 by decide)]
        obtain ⟨hx2, x1, x2, x3, x4⟩ := worn_step (by omega) hI e11 h9
        rw [x1]
        simp only [obs]
        have hP3 : PadOK (ip hx2 11 1 (hx2.1 11 1 + 1)) (ip hm1 0 10 (hm1.1 0 10 + 1)) c n := hP.of
          (by rw [ip_row _ 11 _ _ (by omega), x3 9 (by omega), t4 9 (by omega) (by omega) (by omega) (by omega)])
          (by rw [ip_n _ 0 _ _ (Or.inr (by omega)), t6 5 (by omega) (by omega) (by omega)])
          (by rw [ip_row _ 11 _ _ (by omega), x3 10 (by omega), t4 10 (by omega) (by omega) (by omega) (by omega)])
          (by rw [ip_row _ 0 _ _ (by omega), t5 4 (by omega) (by omega)])
        have hT3 : TrS (ip hx2 11 1 (hx2.1 11 1 + 1)) (ip hm1 0 10 (hm1.1 0 10 + 1)) t := t3.of
          (by rw [ip_row _ 11 _ _ (by omega), x3 12 (by omega)])
          (by rw [ip_row _ 11 _ _ (by omega), x3 13 (by omega)])
          (by rw [ip_row _ 11 _ _ (by omega), x3 14 (by omega)])
          (by rw [ip_row _ 11 _ _ (by omega), x3 15 (by omega)])
          (by rw [ip_row _ 0 _ _ (by omega)])
          (by rw [ip_n _ 0 _ _ (Or.inr (by omega))])
        have hI3 : InvD (ip hx2 11 1 (hx2.1 11 1 + 1)) (ip hm1 0 10 (hm1.1 0 10 + 1)) (a + 1) := by
          obtain ⟨i1, i2, i3, i4, -⟩ := hI
          obtain ⟨y1, y2, y3⟩ := x2
          refine ⟨?_, ?_, ?_, ?_, ?_, ?_, ?_⟩
          · rw [ip_s, x4 1 (by omega), i1, nI_succ']
          · rw [ip_s, t6 10 (by omega) (by omega) (by omega), i2, nI_succ']
          · rw [ip_n _ 11 _ _ (Or.inr (by omega)), x4 2 (by omega), i3]
          · rw [ip_n _ 11 _ _ (Or.inr (by omega)), x4 3 (by omega), i4]
          · rw [ip_n _ 11 _ _ (Or.inr (by omega)), ip_n _ 0 _ _ (Or.inr (by omega))]; exact y1
          · rw [ip_n _ 11 _ _ (Or.inl (by omega)), ip_n _ 0 _ _ (Or.inr (by omega))]; exact y2
          · rw [ip_n _ 0 _ _ (Or.inr (by omega)), ip_n _ 0 _ _ (Or.inr (by omega))]; exact y3
        rw [X_len hP3 (by omega)]
        simp only [obs]
        rw [nI_add, nI_succ']
        obtain ⟨hx', hm', r', z1, z2, z3, z4, z5, z6⟩ := ih (s + lenC (c s)) (a + 1) f g _ _ hP3 hT3 (by omega) (by omega) (by omega) (by omega) (by omega) hn' hI3
        refine ⟨hx', hm', r', z1, z2, z3, fun q hq => ?_, ⟨fun q h0 h2 => ?_, fun j hj => ?_⟩, z6⟩
        · rw [z4 q hq, ip_row _ 11 _ _ (by omega), x3 q (by omega), t4 q (by omega) (by omega) (by omega) (by omega)]
        · rw [z5.1 q h0 h2, ip_row _ 0 _ _ h0, t5 q h0 h2]
        · rw [z5.2 j hj, ip_n _ 0 _ _ (Or.inr (by omega)), t6 j (by omega) (by omega) (by omega)]
