/-! ACTS: one act on the class's trial and on the reference's days. -/
def TrS (hx hm : Hp) (t : Nat) : Prop := ShR (hx.1 13) (hx.1 14) (hx.1 15) (hx.1 12 3) (hm.1 2) t ∧ hm.1 0 2 = nI t
def FX (h h' : Hp) : Prop := ∀ r, r ≠ 12 → r ≠ 13 → r ≠ 14 → r ≠ 15 → h'.1 r = h.1 r
def FM (h h' : Hp) : Prop := ∀ r, r ≠ 2 → h'.1 r = h.1 r
theorem FX.rf (h : Hp) : FX h h := fun _ _ _ _ _ => rfl
theorem FM.rf (h : Hp) : FM h h := fun _ _ => rfl
theorem TrS.there {hx hm : Hp} {t : Nat} (h : TrS hx hm t) {k : Nat} (hk : k < 6) : f_X2_isThere 12 (nI k) hx = some (b2 (t.testBit k)) ∧ f_X6_isThere (nI k) hm = some (b2 (t.testBit k)) :=
  ⟨by rw [X_isThere 12 hx hk]; show some (b2 (decide (hx.1 14 k ≠ -1))) = _; rw [h.1.there hk], M_isThere hm hk h.2 h.1.2.2.2.1⟩
theorem iron_act {hx hm : Hp} {t : Nat} (h : TrS hx hm t) {k : Nat} (hk : k < 6) : ∃ r hx' hm', f_X2_changeIron 12 (nI k) hx = some (r, hx') ∧ f_X6_shoe (nI k) hm = some (r, hm') ∧ TrS hx' hm' t ∧ FX hx hx' ∧ FM hm hm' ∧ hx'.1 12 = hx.1 12 ∧ (r = 0 ∨ r = 1) := by
  obtain ⟨q1, q2⟩ := h.there hk
  obtain ⟨h1, h2, ⟨i, d, e1, e2, e3, e4, e5, e6⟩, h4, h5⟩ := h.1
  cases ht : t.testBit k with
  | false =>
    exact ⟨1, hx, hm, by rw [f_X2_changeIron, q1, ht]; rfl, by rw [f_X6_shoe, q2, ht]; rfl, h, FX.rf _, FM.rf _, rfl, Or.inr rfl⟩
  | true =>
    have hx64 : i ^^^ 2 ^ k < 64 := Nat.xor_lt_two_pow (n := 6) e2 (pw_lt64 hk)
    refine ⟨0, ip hx 15 k (b2 (!i.testBit k)), ip hm 2 87 (nI (i ^^^ 2 ^ k)), ?_, ?_, ⟨⟨fun j hj => ?_, ?_, ⟨i ^^^ 2 ^ k, d, ?_, hx64, ?_, ?_, e5, fun j hj => ?_⟩, h4, fun j hj => ?_⟩, ?_⟩, ?_, ?_, ip_row _ _ _ _ (by omega), Or.inl rfl⟩
    · rw [f_X2_changeIron, q1, ht]
      simp only [obs, b2_t, if_neg one_ne]
      rw [X_ironOf 12 hx hk]
      simp only [obs]
      rw [show hx.1 (12 + 3) k = b2 (i.testBit k) from e6 k hk, put_ok _ _ _ hk (by omega), show (1 : Int32) - b2 (i.testBit k) = b2 (!i.testBit k) by cases i.testBit k <;> rfl]
      rfl
    · rw [f_X6_shoe, q2, ht]
      simp only [obs, b2_t, if_neg one_ne]
      rw [show (87 : Int32) = nI 87 from rfl, ald_ok _ _ (by omega) (by omega), e1]
      simp only [obs]
      rw [sh1 k (by omega), nI_xor, ast_ok _ _ _ (by omega) (by omega)]
      rfl
    · rw [ip_row _ _ _ _ (by omega), ip_n _ _ _ _ (Or.inr (by omega))]; exact h1 j hj
    · rw [ip_row _ _ _ _ (by omega)]; exact h2
    · rw [ip_s]
    · rw [ip_n _ _ _ _ (Or.inr (by omega))]; exact e3
    · rw [ip_row _ _ _ _ (by omega)]; exact e4
    · rw [ip_at, Nat.testBit_xor, Nat.testBit_two_pow]
      by_cases ej : j = k
      · subst ej
        rw [if_pos ⟨rfl, rfl⟩]
        simp
      · have hne : decide (k = j) = false := by simp; omega
        rw [if_neg (fun q => ej q.2), hne, Bool.xor_false]
        exact e6 j hj
    · rw [ip_n _ _ _ _ (Or.inr (by omega)), ip_row _ _ _ _ (by omega)]; exact h5 j hj
    · rw [ip_row _ _ _ _ (by omega)]; exact h.2
    · exact fun r _ _ _ h15 => ip_row _ _ _ _ h15
    · exact fun r h2 => ip_row _ _ _ _ h2
theorem M_bar (h : Hp) {i j : Nat} (hi : i < 9) (hj : j < 9) : f_X6_barOf (nI i) (nI j) h = some (if 0 ≤ h.1 2 (9 * i + j) then (if h.1 2 (9 * i + j) ≤ 99 then 0 else 4) else 3) := by
  rw [f_X6_barOf, ix9', ald_ok _ _ (by omega) (by omega)]
  simp only [obs]
  split
  · split <;> rfl
  · rfl
theorem okv_bar {v : Int32} (h : okv v) : (v = -6 ∧ (if 0 ≤ v then (if v ≤ 99 then (0 : Int32) else 4) else 3) = 3) ∨ ((∃ w : Nat, w ≤ 9 ∧ v = nI w) ∧ ¬ v = -6 ∧ v < 100 ∧ (if 0 ≤ v then (if v ≤ 99 then (0 : Int32) else 4) else 3) = 0) ∨ ((∃ w : Nat, 101 ≤ w ∧ w ≤ 103 ∧ v = nI w) ∧ ¬ v = -6 ∧ ¬ v < 100 ∧ (if 0 ≤ v then (if v ≤ 99 then (0 : Int32) else 4) else 3) = 4) := by
  rcases h with rfl | ⟨w, hw, rfl⟩ | ⟨w, h1, h2, rfl⟩
  · exact Or.inl ⟨rfl, by decide⟩
  · refine Or.inr (Or.inl ⟨⟨w, hw, rfl⟩, neg6 (by omega), nI_lt (b := 100) (by omega) (by omega), ?_⟩)
    rw [if_pos (nI_pos' (by omega)), if_pos (show nI w ≤ (99 : Int32) from nI_le (b := 99) (by omega) (by omega))]
  · refine Or.inr (Or.inr ⟨⟨w, h1, h2, rfl⟩, neg6 (by omega), nI_nlt (b := 100) (by omega) (by omega), ?_⟩)
    rw [if_pos (nI_pos' (by omega)), if_neg (show ¬ nI w ≤ (99 : Int32) from nI_ge (a := 99) (by omega) (by omega))]
theorem TrS.road {hx hm : Hp} {t : Nat} (h : TrS hx hm t) {i j : Nat} (hi : i < 9) (hj : j < 9) (hn : i ≠ j) {v : Int32} (hv : okv v) : TrS (pr 13 i j v hx) (pr 2 i j v hm) t := by
  refine ⟨?_, by rw [pr_row _ _ _ _ _ (by omega)]; exact h.2⟩
  rw [pr_self, pr_self, pr_row _ _ _ _ _ (by omega), pr_row _ _ _ _ _ (by omega), pr_row _ _ _ _ _ (by omega)]
  exact ShR_road h.1 hi hj hn hv
theorem okv_103 : okv 103 := Or.inr (Or.inr ⟨103, by omega, by omega, rfl⟩)
theorem okv_n6 : okv (-6) := Or.inl rfl
theorem bring_act {hx hm : Hp} {t : Nat} (h : TrS hx hm t) {i j : Nat} (hi : i < 9) (hj : j < 9) : ∃ r hx' hm', f_X2_bringIn 12 (nI i) (nI j) hx = some (r, hx') ∧ f_X6_bring (nI i) (nI j) hm = some (r, hm') ∧ TrS hx' hm' t ∧ FX hx hx' ∧ FM hm hm' ∧ hx'.1 12 = hx.1 12 ∧ (r = 0 ∨ r = 3 ∨ r = 4) := by
  have hv := h.1.2.1.2.2 (9 * i + j) (by omega)
  have hb := M_bar hm hi hj
  rw [← h.1.1 _ (by omega)] at hb
  have hX := X_road 12 hx hi hj h.1.diag
  rcases okv_bar hv with ⟨e1, e2⟩ | ⟨⟨w, hw, e1⟩, e2, e3, e4⟩ | ⟨-, e2, e3, e4⟩
  · rw [e2] at hb
    refine ⟨3, hx, hm, ?_, ?_, h, FX.rf _, FM.rf _, rfl, by simp⟩
    · rw [f_X2_bringIn, hX]
      simp only [obs]
      rw [if_pos (show hx.1 (12 + 1) (9 * i + j) = -6 from e1)]
    · rw [f_X6_bring, hb]
      rfl
  · rw [e4] at hb
    have hn : i ≠ j := fun q => e2 (by rw [q]; exact h.1.diag j hj)
    refine ⟨0, pr 13 i j 103 hx, pr 2 i j 103 hm, ?_, ?_, h.road hi hj hn okv_103, fun r _ h13 _ _ => pr_row _ _ _ _ _ h13, fun r h2 => pr_row _ _ _ _ _ h2, pr_row _ _ _ _ _ (by omega), by simp⟩
    · rw [f_X2_bringIn, hX]
      simp only [obs]
      rw [if_neg (show ¬ hx.1 (12 + 1) (9 * i + j) = -6 from e2), if_pos (show hx.1 (12 + 1) (9 * i + j) < 100 from e3), X_putRoad 12 hx hi hj hn]
      rfl
    · rw [f_X6_bring, hb]
      simp only [obs, if_true]
      rw [M_lay hm hi hj]
      rfl
  · rw [e4] at hb
    refine ⟨4, hx, hm, ?_, ?_, h, FX.rf _, FM.rf _, rfl, by simp⟩
    · rw [f_X2_bringIn, hX]
      simp only [obs]
      rw [if_neg (show ¬ hx.1 (12 + 1) (9 * i + j) = -6 from e2), if_neg (show ¬ hx.1 (12 + 1) (9 * i + j) < 100 from e3)]
    · rw [f_X6_bring, hb]
      rfl
theorem jn_eq {κ β : Type} (k : κ) (body : κ → β) : jn k body = body k := by
  have h : jn k body = body k := rfl
  exact h.trans (Eq.refl _)
/-- the names of roads -/
def nam (i j : Nat) : Nat := 10 * min i j + max i j
theorem name_ok {i j : Nat} (hi : i < 9) (hj : j < 9) : f_X5_nameOfRoad (nI i) (nI j) = some (nI (nam i j)) := by
  rw [f_X5_nameOfRoad]
  unfold imin imax nam
  by_cases h : i ≤ j
  · rw [Nat.min_eq_left h, Nat.max_eq_right h, if_neg (nI_nlt h (by omega))]
    by_cases h2 : i = j
    · subst h2
      rw [if_neg (nI_nlt (Nat.le_refl i) (by omega)), show (10 : Int32) * nI i = nI (10 * i) from pk_mul 10 i, nI_add]
    · rw [if_pos (nI_lt (by omega) (by omega)), show (10 : Int32) * nI i = nI (10 * i) from pk_mul 10 i, nI_add]
  · rw [Nat.min_eq_right (by omega), Nat.max_eq_left (by omega), if_pos (nI_lt (by omega) (by omega)), if_neg (nI_nlt (by omega) (by omega)), show (10 : Int32) * nI j = nI (10 * j) from pk_mul 10 j, nI_add]
theorem nam_eq {a b c d : Nat} (ha : a < 9) (hb : b < 9) (hc : c < 9) (hd : d < 9) : nam a b = nam c d ↔ (a = c ∧ b = d) ∨ (a = d ∧ b = c) := by
  unfold nam
  omega
theorem nam_lt {a b : Nat} (ha : a < 9) (hb : b < 9) : nam a b < 99 := by
  unfold nam
  omega
theorem patch_act {hx hm : Hp} {t : Nat} (h : TrS hx hm t) {a b c d : Nat} (ha : a < 9) (hb : b < 9) (hc : c < 9) (hd : d < 9) : ∃ r hx' hm', f_X2_patch 12 (nI a) (nI b) (nI c) (nI d) hx = some (r, hx') ∧ f_X6_patch (nI a) (nI b) (nI c) (nI d) hm = some (r, hm') ∧ TrS hx' hm' t ∧ FX hx hx' ∧ FM hm hm' ∧ hx'.1 12 = hx.1 12 ∧ (r = 0 ∨ r = 3 ∨ r = 4 ∨ r = 6) := by
  have hv1 := h.1.2.1.2.2 (9 * a + b) (by omega)
  have hv2 := h.1.2.1.2.2 (9 * c + d) (by omega)
  have hb1 := M_bar hm ha hb
  have hb2 := M_bar hm hc hd
  rw [← h.1.1 _ (by omega)] at hb1 hb2
  have hX1 := X_road 12 hx ha hb h.1.diag
  have hX2 := X_road 12 hx hc hd h.1.diag
  have eqn : ∀ {x y : Nat}, x < 9 → y < 9 → ((nI x = nI y) ↔ x = y) := fun hx hy => nI_eq (by omega) (by omega)
  rw [f_X2_patch, f_X6_patch, hX1, hX2, hb1, hb2]
  simp only [obs]
  rcases okv_bar hv1 with ⟨e1, e2⟩ | ⟨⟨w, hw, e1⟩, e2, e3, e4⟩ | ⟨-, e2, e3, e4⟩
  · rw [e2, if_pos (show hx.1 (12 + 1) (9 * a + b) = -6 from e1)]
    exact ⟨3, hx, hm, rfl, rfl, h, FX.rf _, FM.rf _, rfl, by simp⟩
  · rcases okv_bar hv2 with ⟨f1, f2⟩ | ⟨⟨w2, hw2, f1⟩, f2, f3, f4⟩ | ⟨-, f2, f3, f4⟩
    · rw [e4, f2, if_neg (show ¬ hx.1 (12 + 1) (9 * a + b) = -6 from e2), if_pos (show hx.1 (12 + 1) (9 * c + d) = -6 from f1)]
      exact ⟨3, hx, hm, rfl, rfl, h, FX.rf _, FM.rf _, rfl, by simp⟩
    · have hn1 : a ≠ b := fun q => e2 (by rw [q]; exact h.1.diag b hb)
      have hn2 : c ≠ d := fun q => f2 (by rw [q]; exact h.1.diag d hd)
      rw [e4, f4, if_neg (show ¬ hx.1 (12 + 1) (9 * a + b) = -6 from e2), if_neg (show ¬ hx.1 (12 + 1) (9 * c + d) = -6 from f2)]
      rw [if_neg (show ¬ (100 : Int32) ≤ hx.1 (12 + 1) (9 * a + b) from fun q => by
        rw [show hx.1 (12 + 1) (9 * a + b) = nI w from e1] at q
        exact nI_ge (a := w) (b := 100) (by omega) (by omega) q), if_pos (show hx.1 (12 + 1) (9 * c + d) < 100 from f3), name_ok ha hb, name_ok hc hd]
      rw [if_neg (show ¬ (0 : Int32) = 3 by decide), if_neg (show ¬ (0 : Int32) = 3 by decide), if_neg (show ¬ (0 : Int32) = 4 by decide), if_neg (show ¬ (0 : Int32) = 4 by decide)]
      simp only [obs]
      by_cases hs : (a = c ∧ b = d) ∨ (a = d ∧ b = c)
      · rw [if_pos (congrArg nI ((nam_eq ha hb hc hd).mpr hs))]
        refine ⟨6, hx, hm, rfl, ?_, h, FX.rf _, FM.rf _, rfl, by simp⟩
        simp only [jn_eq]
        rcases hs with ⟨rfl, rfl⟩ | ⟨rfl, rfl⟩
        · rw [if_pos rfl, if_pos rfl]
        · by_cases hab : a = b
          · exact absurd hab hn1
          · rw [if_neg (fun q => hab ((eqn ha hb).mp q)), if_pos rfl, if_pos rfl]
      · have hw1 : okv (hx.1 (12 + 1) (9 * a + b) / 2) := by
          rw [show hx.1 (12 + 1) (9 * a + b) = nI w from e1]
          exact Or.inr (Or.inl ⟨w / 2, by omega, div_nI (d := 2) (by omega) (by omega) (by omega)⟩)
        rw [if_neg (fun q => hs ((nam_eq ha hb hc hd).mp ((nI_eq (Nat.lt_trans (nam_lt ha hb) (by omega)) (Nat.lt_trans (nam_lt hc hd) (by omega))).mp q)))]
        refine ⟨0, pr 13 c d (-6) (pr 13 a b (hx.1 (12 + 1) (9 * a + b) / 2) hx), pr 2 c d (-6) (pr 2 a b (hx.1 (12 + 1) (9 * a + b) / 2) hm), ?_, ?_, (h.road ha hb hn1 hw1).road hc hd hn2 okv_n6, fun r _ h13 _ _ => by rw [pr_row _ _ _ _ _ h13, pr_row _ _ _ _ _ h13], fun r h2 => by rw [pr_row _ _ _ _ _ h2, pr_row _ _ _ _ _ h2], by rw [pr_row _ _ _ _ _ (by omega), pr_row _ _ _ _ _ (by omega)], by simp⟩
        · rw [X_putRoad 12 hx ha hb hn1]
          simp only [obs]
          rw [X_putRoad 12 _ hc hd hn2]
          rfl
        · have hlast : (Option.bind (ald 89 hm 2 (((9 : Int32) * nI a) + nI b)) fun v5 => Option.bind (f_X6_lay (nI a) (nI b) (v5 / (2 : Int32)) hm) fun h6 => Option.bind (f_X6_lay (nI c) (nI d) (-6 : Int32) h6) fun h7 => some ((0 : Int32), h7)) = some (0, pr 2 c d (-6) (pr 2 a b (hx.1 (12 + 1) (9 * a + b) / 2) hm)) := by
            rw [ix9', ald_ok _ _ (by omega) (by omega), ← h.1.1 _ (by omega)]
            simp only [obs]
            rw [M_lay hm ha hb]
            simp only [obs]
            rw [M_lay _ hc hd]
            rfl
          simp only [jn_eq]
          rw [hlast]
          by_cases q1 : a = c
          · by_cases q2 : b = d
            · exact absurd (Or.inl ⟨q1, q2⟩) hs
            · rw [if_pos (congrArg nI q1), if_neg (fun q => q2 ((eqn hb hd).mp q))]
              by_cases q3 : a = d
              · by_cases q4 : b = c
                · exact absurd (Or.inr ⟨q3, q4⟩) hs
                · rw [if_pos (congrArg nI q3), if_neg (fun q => q4 ((eqn hb hc).mp q))]
              · rw [if_neg (fun q => q3 ((eqn ha hd).mp q))]
          · rw [if_neg (fun q => q1 ((eqn ha hc).mp q))]
            by_cases q3 : a = d
            · by_cases q4 : b = c
              · exact absurd (Or.inr ⟨q3, q4⟩) hs
              · rw [if_pos (congrArg nI q3), if_neg (fun q => q4 ((eqn hb hc).mp q))]
            · rw [if_neg (fun q => q3 ((eqn ha hd).mp q))]
    · rw [e4, f4, if_neg (show ¬ hx.1 (12 + 1) (9 * a + b) = -6 from e2), if_neg (show ¬ hx.1 (12 + 1) (9 * c + d) = -6 from f2)]
      rw [if_neg (show ¬ (100 : Int32) ≤ hx.1 (12 + 1) (9 * a + b) from fun q => by
        rw [show hx.1 (12 + 1) (9 * a + b) = nI w from e1] at q
        exact nI_ge (a := w) (b := 100) (by omega) (by omega) q), if_neg (show ¬ hx.1 (12 + 1) (9 * c + d) < 100 from f3)]
      exact ⟨4, hx, hm, rfl, rfl, h, FX.rf _, FM.rf _, rfl, by simp⟩
  · have hge : (100 : Int32) ≤ hx.1 (12 + 1) (9 * a + b) := by
      have := e3
      rw [Int32.lt_iff_toInt_lt] at this
      rw [Int32.le_iff_toInt_le]
      exact Int.not_lt.mp this
    rcases okv_bar hv2 with ⟨f1, f2⟩ | ⟨-, f2, f3, f4⟩ | ⟨-, f2, f3, f4⟩
    · rw [e4, f2, if_neg (show ¬ hx.1 (12 + 1) (9 * a + b) = -6 from e2), if_pos (show hx.1 (12 + 1) (9 * c + d) = -6 from f1)]
      exact ⟨3, hx, hm, rfl, rfl, h, FX.rf _, FM.rf _, rfl, by simp⟩
    · rw [e4, f4, if_neg (show ¬ hx.1 (12 + 1) (9 * a + b) = -6 from e2), if_neg (show ¬ hx.1 (12 + 1) (9 * c + d) = -6 from f2), if_pos hge]
      exact ⟨4, hx, hm, rfl, rfl, h, FX.rf _, FM.rf _, rfl, by simp⟩
    · rw [e4, f4, if_neg (show ¬ hx.1 (12 + 1) (9 * a + b) = -6 from e2), if_neg (show ¬ hx.1 (12 + 1) (9 * c + d) = -6 from f2), if_pos hge]
      exact ⟨4, hx, hm, rfl, rfl, h, FX.rf _, FM.rf _, rfl, by simp⟩
