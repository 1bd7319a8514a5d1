/-! THE OPS that ask what the pad would do. -/
theorem begin_same {hx hm : Hp} {t : Nat} (ht : hm.1 0 2 = nI t) (hS : ShR (hx.1 2) (hx.1 3) (hx.1 4) (hx.1 1 3) (hm.1 1) t) :
    ∃ hx1 hm1, f_X4_begin 1 hx = some hx1 ∧ (Option.bind (f_X6_asNow hm) fun h1 => Option.bind (some (ip h1 0 10 (0 : Int32))) fun h2 => some h2) = some hm1 ∧ TrS hx1 hm1 t ∧ FXb hx hx1 ∧ FMb hm hm1 ∧ InvD hx1 hm1 0 := by
  obtain ⟨hx0, a1, a2, a3, a4, a5, a6, a7⟩ := X2_copy 12 1 hx (by omega)
  obtain ⟨hm0, b1, b2, b3, b4, b5, b6⟩ := M_asNow hm
  refine ⟨ip (ip (ip (ip hx0 11 1 0) 11 2 (-6)) 11 3 (-6)) 11 4 (-6), ip hm0 0 10 0, by rw [f_X4_begin, a1]; rfl, by rw [b1]; rfl, ⟨?_, ?_⟩, fun r hr => ?_, ⟨fun q h0 h2 => ?_, fun j hj => ?_⟩, ?_, ?_, ?_, ?_, ?_, ?_, ?_⟩
  · rw [ip_row _ 0 _ _ (by omega)]
    simp only [ip_row _ 11 _ _ (show 13 ≠ 11 by omega), ip_row _ 11 _ _ (show 14 ≠ 11 by omega), ip_row _ 11 _ _ (show 15 ≠ 11 by omega), ip_row _ 11 _ _ (show 12 ≠ 11 by omega)]
    exact hS.congr a2 a3 a4 a5 b2
  · rw [ip_n _ 0 _ _ (Or.inr (by omega)), b6 2 (by omega) (by omega)]; exact ht
  · rw [ip_row _ 11 _ _ (by omega), ip_row _ 11 _ _ (by omega), ip_row _ 11 _ _ (by omega), ip_row _ 11 _ _ (by omega), a7 r (by omega)]
  · rw [ip_row _ 0 _ _ h0, b5 q h0 h2]
  · rw [ip_n _ 0 _ _ (Or.inr (by omega)), b6 j (by omega) (by omega)]
  · rw [ip_n _ 11 _ _ (Or.inr (by omega)), ip_n _ 11 _ _ (Or.inr (by omega)), ip_n _ 11 _ _ (Or.inr (by omega)), ip_s]; rfl
  · rw [ip_s]; rfl
  · rw [ip_n _ 11 _ _ (Or.inr (by omega)), ip_n _ 11 _ _ (Or.inr (by omega)), ip_s]
  · rw [ip_n _ 11 _ _ (Or.inr (by omega)), ip_s]
  · rw [ip_s, ip_n _ 0 _ _ (Or.inr (by omega)), b3]
  · rw [ip_row _ 11 _ _ (by omega), ip_row _ 11 _ _ (by omega), ip_row _ 11 _ _ (by omega), ip_row _ 11 _ _ (by omega), ip_n _ 0 _ _ (Or.inr (by omega)), b4]; exact a6
  · exact Or.inl ⟨by rw [ip_n _ 0 _ _ (Or.inr (by omega)), b3], by rw [ip_n _ 0 _ _ (Or.inr (by omega)), b4]⟩
theorem FXb.trans {a b c : Hp} (h : FXb a b) (h' : FXb b c) : FXb a c := fun r hr => (h' r hr).trans (h r hr)
theorem FMb.trans {a b c : Hp} (h : FMb a b) (h' : FMb b c) : FMb a c := ⟨fun q h0 h2 => (h'.1 q h0 h2).trans (h.1 q h0 h2), fun j hj => (h'.2 j hj).trans (h.2 j hj)⟩
theorem FXb.eq {a b : Hp} (h : FXb a b) : eqX a b := fun r hr => h r (by omega)
theorem FMb.eq {a b : Hp} (h : FMb a b) : eqM a b := ⟨fun r hr => h.1 r (by omega) (by omega), fun j hj => h.2 j (by omega)⟩
theorem follow_same {hx hm : Hp} {c : Nat → Nat} {n : Nat} (hr : Rl hx hm) (hP : PadOK hx hm c n) (hF : flt c n 61 0 = none) : ∃ t hx' hm' r, f_X4_follow 1 hx = some hx' ∧ f_X6_goDays hm = some (r, hm') ∧ TrS hx' hm' t ∧ FXb hx hx' ∧ FMb hm hm' ∧ OutD hx' hm' r := by
  obtain ⟨⟨t, ht, hS⟩, -⟩ := hr
  obtain ⟨hx1, hm1, a1, a2, a3, a4, a5, a6⟩ := begin_same ht hS
  have hP1 : PadOK hx1 hm1 c n := hP.of (by rw [a4 9 (by omega)]) (by rw [a5.2 5 (by omega)]) (by rw [a4 10 (by omega)]) (by rw [a5.1 4 (by omega) (by omega)])
  have hn := hP.1
  obtain ⟨hx', hm', r, z1, z2, z3, z4, z5, z6⟩ := days_loop 60 0 0 FU FU hx1 hm1 hP1 a3 (by omega) (by omega) (by omega) (by rw [FU_eq]; omega) (by rw [FU_eq]; omega) hF a6
  refine ⟨t, hx', hm', r, ?_, ?_, z3, a4.trans z4, a5.trans z5, z6⟩
  · rw [f_X4_follow, a1]
    exact z1
  · rw [f_X6_goDays]
    cases hq : f_X6_asNow hm with
    | none => rw [hq] at a2; cases a2
    | some h1 =>
      rw [hq] at a2
      simp only [obs] at a2 ⊢
      rw [Option.some.inj a2]
      exact z2
theorem o2i_none {c : Nat → Nat} {n f s : Nat} : flt c n f s = none → o2i (flt c n f s) = -6 := by
  intro h
  rw [h]; rfl
theorem chkG_lt {c : Nat → Nat} {n : Nat} {q : Nat → Bool} (hn : n ≤ 60) : ∀ j k r, chkG c n q k j = some r → r ≤ 60 := by
  intro j
  induction j with
  | zero => intro k r h; cases h
  | succ j ih =>
    intro k r h
    rw [chkG] at h
    by_cases hb : n ≤ k
    · rw [if_pos hb] at h; cases h; exact hn
    · rw [if_neg hb] at h
      cases hq : q (c k) with
      | false => rw [hq, if_neg (by decide)] at h; cases h; omega
      | true => rw [hq, if_pos rfl] at h; exact ih _ _ h
theorem flt_lt {c : Nat → Nat} {n : Nat} (hn : n ≤ 60) : ∀ f s r, flt c n f s = some r → r ≤ 60 := by
  intro f
  induction f with
  | zero => intro s r h; cases h
  | succ f ih =>
    intro s r h
    rw [flt] at h
    by_cases hb : n ≤ s
    · rw [if_pos hb] at h; cases h
    · rw [if_neg hb] at h
      unfold errA at h
      by_cases h0 : lenC (c s) = 0
      · rw [if_pos h0] at h
        have h' : some s = some r := h
        cases h'; omega
      · rw [if_neg h0] at h
        cases hq : chkG c n (nxt c s) (s + 1) (lenC (c s) - 1) with
        | none => rw [hq] at h; exact ih _ _ h
        | some r' =>
          rw [hq] at h
          have h' : some r' = some r := h
          cases h'
          exact chkG_lt hn _ _ _ hq
theorem fault_cases {hx hm : Hp} (hr : Rl hx hm) : ∃ c n, PadOK hx hm c n ∧ ((flt c n 61 0 = none ∧ f_X1_faultPlace hx = some (-6) ∧ f_X6_faultOf hm = some (-6)) ∨ ∃ r : Nat, r ≤ 60 ∧ f_X1_faultPlace hx = some (nI r) ∧ f_X6_faultOf hm = some (nI r)) := by
  obtain ⟨c, n, hP⟩ := hr.2.2.1.ok
  refine ⟨c, n, hP, ?_⟩
  have e1 := X_fault hP
  have e2 := M_fault hP
  cases hq : flt c n 61 0 with
  | none =>
    rw [hq] at e1 e2
    exact Or.inl ⟨rfl, e1, e2⟩
  | some r =>
    rw [hq] at e1 e2
    exact Or.inr ⟨r, flt_lt hP.1 _ _ _ hq, e1, e2⟩
theorem r_judge : op_judge Rl := by
  intro hx hm x1 hr
  rcases in_cases x1 0 1 (by omega) (by omega) with ⟨e, -⟩ | ⟨w, -, hw, rfl, e⟩
  · exact ⟨-2, hx, hm, by rw [f_X5_judge, wi_eq, show f_X6_in x1 (0 : Int32) (1 : Int32) = some 0 from e]; rfl, by rw [f_X6_judge, show f_X6_in x1 (0 : Int32) (1 : Int32) = some 0 from e]; rfl, hr⟩
  · have e' : f_X6_in (nI w) (0 : Int32) (1 : Int32) = some 1 := e
    rw [f_X5_judge, f_X6_judge, wi_eq, e']
    simp only [obs, if_neg one_ne]
    obtain ⟨c, n, hP, ⟨hF, f1, f2⟩ | ⟨r, hr6, f1, f2⟩⟩ := fault_cases hr
    · rw [f1, f2]
      simp only [obs]
      rw [if_pos trivial, if_pos (show (-6 : Int32) < 0 by decide)]
      obtain ⟨t, hx', hm', r, g1, g2, g3, g4, g5, g6⟩ := follow_same hr hP hF
      rw [g1, g2]
      simp only [obs]
      rcases g6 with ⟨rfl, k2, k3, -⟩ | ⟨a, ha, rfl, k2, k3⟩
      · refine ⟨-6, hx', hm', ?_, ?_, hr.frame g4.eq g5.eq⟩
        · rw [k2, k3]; split <;> rfl
        · rw [if_pos (by decide)]
      · by_cases hw0 : w = 0
        · subst hw0
          refine ⟨nI a, hx', hm', ?_, ?_, hr.frame g4.eq g5.eq⟩
          · rw [if_pos (show nI 0 = 0 from rfl), k2]
          · rw [if_neg (nI_pos (by omega)), if_pos (show nI 0 = 0 from rfl)]
        · refine ⟨hm'.1 0 9, hx', hm', ?_, ?_, hr.frame g4.eq g5.eq⟩
          · rw [if_neg (nzn (show w < 2 ^ 31 by omega) hw0), k3]
          · rw [if_neg (nI_pos (by omega)), if_neg (nzn (show w < 2 ^ 31 by omega) hw0)]
    · rw [f1, f2]
      simp only [obs]
      rw [if_neg (neg6 (by omega)), if_neg (nI_pos (by omega))]
      exact ⟨-5, hx, hm, rfl, rfl, hr⟩
theorem can_same {hx hm : Hp} (hr : Rl hx hm) : ∃ hx' hm', FXb hx hx' ∧ FMb hm hm' ∧ ((f_X5_canBeDone hx = some (0, hx') ∧ f_X6_barOfDays hm = some (-5, hm')) ∨ (f_X5_canBeDone hx = some (1, hx') ∧ f_X6_barOfDays hm = some (0, hm') ∧ (∃ t, TrS hx' hm' t) ∧ hx'.1 11 1 = hm'.1 0 10 ∧ hx'.1 11 4 = hm'.1 0 7 ∧ hx'.1 12 4 = hm'.1 0 8)) := by
  rw [f_X5_canBeDone, f_X6_barOfDays]
  obtain ⟨c, n, hP, ⟨hF, f1, f2⟩ | ⟨r, hr6, f1, f2⟩⟩ := fault_cases hr
  · rw [f1, f2]
    simp only [obs]
    rw [if_pos trivial, if_neg (show ¬ (0 : Int32) ≤ -6 by decide)]
    obtain ⟨t, hx', hm', r, g1, g2, g3, g4, g5, g6⟩ := follow_same hr hP hF
    rw [g1, g2]
    simp only [obs]
    refine ⟨hx', hm', g4, g5, ?_⟩
    rcases g6 with ⟨rfl, k2, k3, k4, k5, k6⟩ | ⟨a, ha, rfl, k2, k3⟩
    · exact Or.inr ⟨by rw [if_pos k2], by rw [if_pos (by decide)], ⟨t, g3⟩, k4, k5, k6⟩
    · exact Or.inl ⟨by rw [if_neg (by rw [k2]; exact neg6 (by omega))], by rw [if_neg (nI_pos (by omega))]⟩
  · rw [f1, f2]
    simp only [obs]
    rw [if_neg (neg6 (by omega)), if_pos (nI_pos' (by omega))]
    exact ⟨hx, hm, FXb.rf _, FMb.rf _, Or.inl ⟨rfl, rfl⟩⟩
theorem r_behind : op_behind Rl := by
  intro hx hm x1 x2 hr
  have hno : ∀ (hX : f_X5_areTwoPlaces x1 x2 = some 0) (hM : f_X6_behind x1 x2 hm = some (-1, hm)), ∃ (r : Int32) (hx' : Hp) (hm' : Hp), f_X5_behind x1 x2 hx = some (r, hx') ∧ f_X6_behind x1 x2 hm = some (r, hm') ∧ Rl hx' hm' := fun hX hM => ⟨-1, hx, hm, by rw [f_X5_behind, hX]; rfl, hM, hr⟩
  rcases ix_cases x1 9 (by omega) with h1 | ⟨i, hi, rfl⟩
  · exact hno (two_no (Or.inl h1)) (by rw [f_X6_behind, mPlace_no h1]; rfl)
  rcases ix_cases x2 9 (by omega) with h2 | ⟨j, hj, rfl⟩
  · exact hno (two_no (Or.inr h2)) (by
      rw [f_X6_behind, mPlace_ok hi]
      simp only [obs, if_neg one_ne]
      rw [mPlace_no h2]; rfl)
  by_cases hn : i = j
  · subst hn
    exact hno (two_same _) (by
      rw [f_X6_behind, mPlace_ok hi]
      simp only [obs, if_neg one_ne, if_pos trivial])
  rw [f_X5_behind, f_X6_behind, two_ok hi hj hn, mPlace_ok hi, mPlace_ok hj]
  simp only [obs, if_neg one_ne]
  rw [if_neg (show ¬ nI i = nI j from fun q => hn ((nI_eq (by omega) (by omega)).mp q))]
  obtain ⟨hx', hm', g4, g5, ⟨f1, f2⟩ | ⟨f1, f2, ⟨t, g3⟩, -⟩⟩ := can_same hr
  · rw [f1, f2]
    exact ⟨-5, hx', hm', rfl, rfl, hr.frame g4.eq g5.eq⟩
  · rw [f1, f2]
    simp only [obs]
    rw [if_neg one_ne, if_pos (show (0 : Int32) ≤ 0 by decide), X_road 12 hx' hi hj g3.1.diag, ix9', ald_ok _ _ (show 9 * i + j < 89 by omega) (by omega)]
    exact ⟨hm'.1 2 (9 * i + j), hx', hm', by rw [← g3.1.1 _ (show 9 * i + j < 81 by omega)]; rfl, rfl, hr.frame g4.eq g5.eq⟩
theorem r_goes : op_goes Rl := by
  intro hx hm x1 x2 hr
  obtain ⟨t0, ht0, hS0⟩ := id hr.1
  rcases ix_cases x1 6 (by omega) with h1 | ⟨k, hk, rfl⟩
  · exact ⟨-1, hx, hm, by rw [f_X5_goes, X_isThere_no 1 hx h1]; rfl, by rw [f_X6_goes, M_isThere_no hm h1]; rfl, hr⟩
  have q2 : f_X6_isThere (nI k) hm = some (b2 (t0.testBit k)) := M_isThere hm hk ht0 hS0.2.2.2.1
  have q1 : f_X2_isThere 1 (nI k) hx = some (b2 (t0.testBit k)) := by
    rw [X_isThere 1 hx hk]
    show some (b2 (decide (hx.1 3 k ≠ -1))) = _
    rw [hS0.there hk]
  rw [f_X5_goes, f_X6_goes, q1, q2]
  simp only [obs]
  cases ht : t0.testBit k with
  | false => exact ⟨-1, hx, hm, by rw [if_pos b2_f], by rw [if_pos b2_f], hr⟩
  | true =>
    rw [if_neg (show ¬ b2 true = 0 by decide), if_neg (show ¬ b2 true = 0 by decide), wi_eq]
    rcases in_cases x2 0 1 (by omega) (by omega) with ⟨e, -⟩ | ⟨w, -, hw, rfl, e⟩
    · rw [show f_X6_in x2 (0 : Int32) (1 : Int32) = some 0 from e]
      exact ⟨-2, hx, hm, rfl, rfl, hr⟩
    · rw [show f_X6_in (nI w) (0 : Int32) (1 : Int32) = some 1 from e]
      simp only [obs, if_neg one_ne]
      obtain ⟨hx', hm', g4, g5, ⟨f1, f2⟩ | ⟨f1, f2, ⟨t, g3⟩, -⟩⟩ := can_same hr
      · rw [f1, f2]
        exact ⟨-5, hx', hm', rfl, rfl, hr.frame g4.eq g5.eq⟩
      · rw [f1, f2]
        simp only [obs]
        rw [if_neg one_ne, if_pos (show (0 : Int32) ≤ 0 by decide)]
        have ett : t = t0 := by
          have e1 := g3.2
          rw [g5.2 2 (by omega), ht0] at e1
          exact ((nI_eq (by have := hS0.2.2.2.1; omega) (by have := g3.1.2.2.2.1; omega)).mp e1).symm
        subst ett
        obtain ⟨z1, z2, ⟨i, d, z3, z4, z5, z6, z7, z8⟩, z9, z10⟩ := g3.1
        by_cases hw0 : w = 0
        · subst hw0
          rw [if_pos (show nI 0 = 0 from rfl), if_pos (show nI 0 = 0 from rfl), X_placeOf 12 hx' hk, ix81, ald_ok _ _ (show 81 + k < 89 by omega) (by omega)]
          rcases z10 k hk with ⟨-, p, p1, p2, p3⟩ | ⟨p1, -⟩
          · exact ⟨nI p, hx', hm', by rw [p3]; rfl, by rw [p2]; rfl, hr.frame g4.eq g5.eq⟩
          · rw [p1] at ht; cases ht
        · rw [if_neg (nzn (show w < 2 ^ 31 by omega) hw0), if_neg (nzn (show w < 2 ^ 31 by omega) hw0), X_ironOf 12 hx' hk, show (87 : Int32) = nI 87 from rfl, ald_ok _ _ (show 87 < 89 by omega) (by omega), z3]
          simp only [obs]
          rw [bit_nI (by omega) (by omega)]
          exact ⟨b2 (i.testBit k), hx', hm', by rw [show hx'.1 (12 + 3) k = b2 (i.testBit k) from z8 k hk], rfl, hr.frame g4.eq g5.eq⟩
theorem r_then : op_then Rl := by
  intro hx hm x1 hr
  rw [f_X5_then, f_X6_then, wi_eq]
  rcases in_cases x1 0 5 (by omega) (by omega) with ⟨e, -⟩ | ⟨w, -, hw, rfl, e⟩
  · rw [show f_X6_in x1 (0 : Int32) (5 : Int32) = some 0 from e]
    exact ⟨-2, hx, hm, rfl, rfl, hr⟩
  · rw [show f_X6_in (nI w) (0 : Int32) (5 : Int32) = some 1 from e]
    simp only [obs, if_neg one_ne]
    obtain ⟨hx', hm', g4, g5, ⟨f1, f2⟩ | ⟨f1, f2, ⟨t, g3⟩, k1, k2, k3⟩⟩ := can_same hr
    · rw [f1, f2]
      exact ⟨-5, hx', hm', rfl, rfl, hr.frame g4.eq g5.eq⟩
    · rw [f1, f2]
      simp only [obs]
      rw [if_neg one_ne, if_pos (show (0 : Int32) ≤ 0 by decide)]
      have hw6 : w = 0 ∨ w = 1 ∨ w = 2 ∨ w = 3 ∨ w = 4 ∨ w = 5 := by omega
      obtain ⟨m, -, m1, m2⟩ := shutIn_same (a := 12) g3.1 g3.2
      obtain ⟨z1, z2, ⟨i, d, z3, z4, z5, z6, z7, z8⟩, z9, z10⟩ := g3.1
      rcases hw6 with rfl | rfl | rfl | rfl | rfl | rfl
      · rw [if_pos (show nI 0 = 0 from rfl), if_pos (show nI 0 = 0 from rfl), X_countRoads, M_roadsOf]
        exact ⟨_, hx', hm', rfl, by rw [← count_same z2 z1]; rfl, hr.frame g4.eq g5.eq⟩
      · rw [if_neg (show ¬ nI 1 = 0 by decide), if_neg (show ¬ nI 1 = 0 by decide), if_pos (show nI 1 = 1 from rfl), if_pos (show nI 1 = 1 from rfl), X_addWear, M_wearOf]
        exact ⟨_, hx', hm', rfl, by rw [sI_congr (g := fun k => if inb (hx'.1 13 k) 0 9 then hx'.1 13 k else 0) (fun k hk => by rw [z1 k hk])]; rfl, hr.frame g4.eq g5.eq⟩
      · rw [if_neg (show ¬ nI 2 = 0 by decide), if_neg (show ¬ nI 2 = 0 by decide), if_neg (show ¬ nI 2 = 1 by decide), if_neg (show ¬ nI 2 = 1 by decide), if_pos (show nI 2 = 2 from rfl), if_pos (show nI 2 = 2 from rfl), m1, m2]
        exact ⟨_, hx', hm', rfl, rfl, hr.frame g4.eq g5.eq⟩
      · rw [if_neg (show ¬ nI 3 = 0 by decide), if_neg (show ¬ nI 3 = 0 by decide), if_neg (show ¬ nI 3 = 1 by decide), if_neg (show ¬ nI 3 = 1 by decide), if_neg (show ¬ nI 3 = 2 by decide), if_neg (show ¬ nI 3 = 2 by decide), if_pos (show nI 3 = 3 from rfl), if_pos (show nI 3 = 3 from rfl), show (88 : Int32) = nI 88 from rfl, ald_ok _ _ (show 88 < 89 by omega) (by omega)]
        exact ⟨_, hx', hm', rfl, by rw [z6, ← z5]; rfl, hr.frame g4.eq g5.eq⟩
      · rw [if_neg (show ¬ nI 4 = 0 by decide), if_neg (show ¬ nI 4 = 0 by decide), if_neg (show ¬ nI 4 = 1 by decide), if_neg (show ¬ nI 4 = 1 by decide), if_neg (show ¬ nI 4 = 2 by decide), if_neg (show ¬ nI 4 = 2 by decide), if_neg (show ¬ nI 4 = 3 by decide), if_neg (show ¬ nI 4 = 3 by decide), if_pos (show nI 4 = 4 from rfl), if_pos (show nI 4 = 4 from rfl)]
        exact ⟨_, hx', hm', rfl, by rw [k2], hr.frame g4.eq g5.eq⟩
      · rw [if_neg (show ¬ nI 5 = 0 by decide), if_neg (show ¬ nI 5 = 0 by decide), if_neg (show ¬ nI 5 = 1 by decide), if_neg (show ¬ nI 5 = 1 by decide), if_neg (show ¬ nI 5 = 2 by decide), if_neg (show ¬ nI 5 = 2 by decide), if_neg (show ¬ nI 5 = 3 by decide), if_neg (show ¬ nI 5 = 3 by decide), if_neg (show ¬ nI 5 = 4 by decide), if_neg (show ¬ nI 5 = 4 by decide)]
        exact ⟨_, hx', hm', rfl, by rw [k3], hr.frame g4.eq g5.eq⟩
theorem M_doneL (h : Hp) : f_X6_done_l12 (fun (w5 : Int32) (h6 : Hp) => Option.bind (some (ip h6 0 5 (0 : Int32))) fun h7 => some ((h7.1 0 10), h7)) FU 0 h = some (h.1 0 10, ip (cpyH h 2 1 89) 0 5 0) := by
  have key := loop_FU (fun f (q : Int32 × Hp) => f_X6_done_l12 (fun (w5 : Int32) (h6 : Hp) => Option.bind (some (ip h6 0 5 (0 : Int32))) fun h7 => some ((h7.1 0 10), h7)) f q.1 q.2) (fun k => (nI k, cpyH h 2 1 k)) 89 (some (h.1 0 10, ip (cpyH h 2 1 89) 0 5 0)) (by omega)
    (fun f k hk => by
      show f_X6_done_l12 _ (f + 1) (nI k) (cpyH h 2 1 k) = _
      rw [f_X6_done_l12, if_neg (g89 hk), ald_ok _ _ hk (by omega)]
      simp only [obs]
      rw [ast_ok _ _ _ hk (by omega)]
      simp only [obs]
      rw [cpyH_row h 2 1 k (by omega), cpyH_s, nI_succ'])
    (fun f => by
      show f_X6_done_l12 _ (f + 1) (nI 89) (cpyH h 2 1 89) = _
      rw [f_X6_done_l12, if_pos e89]
      simp only [obs]
      rw [ip_n _ 0 _ _ (Or.inr (by omega)), cpyH_row _ _ _ _ (by omega)])
  dsimp only at key
  rw [cpyH_0] at key
  exact key
theorem r_done : op_done Rl := by
  intro hx hm hr
  rw [f_X5_done, f_X6_done]
  obtain ⟨hx', hm', g4, g5, ⟨f1, f2⟩ | ⟨f1, f2, ⟨t, g3⟩, k1, k2, k3⟩⟩ := can_same hr
  · rw [f1, f2]
    exact ⟨-5, hx', hm', rfl, rfl, hr.frame g4.eq g5.eq⟩
  · have hr' := hr.frame g4.eq g5.eq
    obtain ⟨-, hG, -, i1, i2⟩ := id hr'
    obtain ⟨hx2, a1, a2, a3, a4, a5, a6, a7⟩ := X2_copy 1 12 hx' (by omega)
    rw [f1, f2]
    simp only [obs]
    rw [if_neg one_ne, if_pos (show (0 : Int32) ≤ 0 by decide), a1, show (0 : Int32) = nI 0 from rfl]
    simp only [obs]
    refine ⟨hm'.1 0 10, ip hx2 9 1 0, ip (cpyH hm' 2 1 89) 0 5 0, ?_, M_doneL hm', ?_⟩
    · rw [f_X1_empty]
      simp only [obs]
      rw [ip_row _ 9 _ _ (by omega), a7 11 (by omega), k1]
    · refine hr'.setX ⟨t, ?_, ?_⟩ ?_ ⟨0, by omega, ?_, ?_, fun i hi => absurd hi (by omega)⟩ (fun r h1 h2 => ?_) ?_ ?_
      · rw [ip_n _ 0 _ _ (Or.inr (by omega)), cpyH_row _ _ _ _ (by omega)]; exact g3.2
      · rw [ip_row _ 9 _ _ (by omega), ip_row _ 9 _ _ (by omega), ip_row _ 9 _ _ (by omega), ip_row _ 9 _ _ (by omega), ip_row _ 0 _ _ (by omega)]
        exact g3.1.congr a2 a3 a4 a5 (fun k hk => cpyH_in _ _ _ _ hk)
      · unfold SiM
        rw [ip_row _ 9 _ _ (by omega), ip_row _ 9 _ _ (by omega), ip_row _ 9 _ _ (by omega), ip_row _ 9 _ _ (by omega), ip_row _ 0 _ _ (by omega), ip_n _ 0 _ _ (Or.inr (by omega)), cpyH_row _ _ _ _ (by omega), cpyH_row _ _ _ _ (by omega), a7 5 (by omega), a7 6 (by omega), a7 7 (by omega), a7 8 (by omega)]
        exact hG
      · rw [ip_s]; rfl
      · rw [ip_s]; rfl
      · rw [ip_row _ 9 _ _ (by omega), a7 r (by omega)]
      · rw [ip_row _ 0 _ _ (by omega), cpyH_row _ _ _ _ (by omega)]
      · rw [ip_row _ 0 _ _ (by omega), cpyH_row _ _ _ _ (by omega)]
