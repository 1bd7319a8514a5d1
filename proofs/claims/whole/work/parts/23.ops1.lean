/-! OPS THAT SET: road, walker, say, seen, forget. -/
theorem Rl.setX {hx hm hx' hm' : Hp} (h : Rl hx hm) (hS : ShM hx' hm') (hG : SiM hx' hm') (hP : PaR hx' hm') (hX : ∀ r, 16 ≤ r → r ≤ 33 → hx'.1 r = hx.1 r) (hM : hm'.1 12 = hm.1 12) (hM2 : hm'.1 13 = hm.1 13) : Rl hx' hm' := by
  obtain ⟨-, -, -, i1, i2⟩ := h
  refine ⟨hS, hG, hP, ?_, ?_⟩
  · unfold ImR
    rw [hX 16 (by omega) (by omega), hX (16 + 1) (by omega) (by omega), hX (16 + 2) (by omega) (by omega), hX (16 + 3) (by omega) (by omega), hX (16 + 4) (by omega) (by omega), hX (16 + 5) (by omega) (by omega), hX (16 + 6) (by omega) (by omega), hX (16 + 7) (by omega) (by omega), hX (16 + 8) (by omega) (by omega), hM, hM2]
    exact i1
  · unfold ImR
    rw [hX 25 (by omega) (by omega), hX (25 + 1) (by omega) (by omega), hX (25 + 2) (by omega) (by omega), hX (25 + 3) (by omega) (by omega), hX (25 + 4) (by omega) (by omega), hX (25 + 5) (by omega) (by omega), hX (25 + 6) (by omega) (by omega), hX (25 + 7) (by omega) (by omega), hX (25 + 8) (by omega) (by omega), hM, hM2]
    exact i2
theorem inb_le {x l u : Int32} (h : inb x l u = true) : ¬ x < l ∧ ¬ u < x := by
  unfold inb f_X6_in at h
  by_cases h1 : x < l
  · simp [h1] at h
  · by_cases h2 : u < x
    · simp [h1, h2] at h
    · exact ⟨h1, h2⟩
theorem inb_nI {x : Int32} {a b : Nat} (hb : b < 2 ^ 31) (hab : a ≤ b) (h : inb x (nI a) (nI b) = true) : ∃ k : Nat, a ≤ k ∧ k ≤ b ∧ x = nI k := by
  rcases in_cases x a b hb hab with ⟨e, -⟩ | ⟨k, h1, h2, h3, -⟩
  · unfold inb at h
    rw [e] at h
    exact absurd h (by decide)
  · exact ⟨k, h1, h2, h3⟩
theorem nI_9 : nI 9 = 9 := rfl
theorem wear_ok {x : Int32} (h : inb x (-1) 9 = true) : okv (if 0 ≤ x then x else -6) := by
  obtain ⟨h1, h2⟩ := inb_le h
  by_cases h0 : 0 ≤ x
  · rw [if_pos h0]
    rcases pk_ix x (show 10 < 2 ^ 31 by omega) with q | q | ⟨j, hj, rfl⟩
    · exfalso
      rw [Int32.lt_iff_toInt_lt] at q
      rw [Int32.le_iff_toInt_le] at h0
      omega
    · exfalso
      apply h2
      rw [Int32.le_iff_toInt_le, nI_toInt (by omega)] at q
      rw [Int32.lt_iff_toInt_lt, show (9 : Int32).toInt = 9 by decide]
      omega
    · exact Or.inr (Or.inl ⟨j, by omega, rfl⟩)
  · rw [if_neg h0]
    exact Or.inl rfl
theorem opt_ite (c : Prop) [Decidable c] (a b : Int32) : (if c then some a else some b) = some (if c then a else b) := by by_cases h : c <;> simp [h]
theorem ShR_road {R P I B : Nat → Int32} {dx : Int32} {t i j : Nat} {v : Int32} (h : ShR R P I dx B t) (hi : i < 9) (hj : j < 9) (hn : i ≠ j) (hv : okv v) : ShR (setR R i j v) P I dx (setR B i j v) t := by
  obtain ⟨h1, h2, ⟨q, d, e1, e2, e3, e4, e5, e6⟩, h4, h5⟩ := h
  refine ⟨fun k hk => ?_, okR_set h2 hi hj hn hv, ⟨q, d, ?_, e2, ?_, e4, e5, e6⟩, h4, fun k hk => ?_⟩
  · unfold setR
    by_cases e : k = 9 * i + j ∨ k = 9 * j + i
    · rw [if_pos e, if_pos e]
    · rw [if_neg e, if_neg e]; exact h1 k hk
  · unfold setR; rw [if_neg (by omega)]; exact e1
  · unfold setR; rw [if_neg (by omega)]; exact e3
  · unfold setR; rw [if_neg (by omega)]; exact h5 k hk
theorem r_road : op_road Rl := by
  intro hx hm x1 x2 x3 hr
  obtain ⟨⟨t, ht, hS⟩, hG, hP, i1, i2⟩ := id hr
  rcases ix_cases x1 9 (by omega) with b1 | ⟨i, hi, rfl⟩
  · exact ⟨-1, hx, hm, by rw [f_X5_road, two_no (Or.inl b1)]; rfl, by rw [f_X6_road, mPlace_no b1]; rfl, hr⟩
  rcases ix_cases x2 9 (by omega) with b2 | ⟨j, hj, rfl⟩
  · exact ⟨-1, hx, hm, by rw [f_X5_road, two_no (Or.inr b2)]; rfl, by rw [f_X6_road, mPlace_ok hi]; simp only [obs, if_neg one_ne]; rw [mPlace_no b2]; rfl, hr⟩
  by_cases hn : i = j
  · subst hn
    exact ⟨-1, hx, hm, by rw [f_X5_road, two_same]; rfl, by rw [f_X6_road, mPlace_ok hi]; simp only [obs, if_neg one_ne, if_true], hr⟩
  cases hw : inb x3 (-1) 9 with
  | false =>
    refine ⟨-2, hx, hm, ?_, ?_, hr⟩
    · rw [f_X5_road, two_ok hi hj hn]
      simp only [obs, if_neg one_ne]
      rw [wi_eq, in_b2, hw]
      rfl
    · rw [f_X6_road, mPlace_ok hi]
      simp only [obs, if_neg one_ne]
      rw [mPlace_ok hj]
      simp only [obs, if_neg one_ne]
      rw [if_neg (fun e => hn ((nI_eq (by omega) (by omega)).mp e)), in_b2, hw]
      rfl
  | true =>
    have hv := wear_ok hw
    generalize hve : (if 0 ≤ x3 then x3 else -6) = v at hv
    obtain ⟨h', a1, a2, a3, a4, a5, a6⟩ := M_asNow (pr 1 i j v hm)
    have hS2 : ShR (setR (hx.1 2) i j v) (hx.1 3) (hx.1 4) (hx.1 1 3) (setR (hm.1 1) i j v) t := ShR_road hS hi hj hn hv
    refine ⟨sI (fun k => if (pr 2 i j v hx).1 2 k = -6 then 0 else 1) 81 / 2, pr 2 i j v hx, h', ?_, ?_, ?_⟩
    · rw [f_X5_road, two_ok hi hj hn]
      simp only [obs, if_neg one_ne]
      rw [wi_eq, in_b2, hw]
      simp only [obs, b2_t, if_neg one_ne, opt_ite, hve]
      rw [X_putRoad 1 hx hi hj hn]
      simp only [obs]
      rw [X_countRoads]
      rfl
    · rw [f_X6_road, mPlace_ok hi]
      simp only [obs, if_neg one_ne]
      rw [mPlace_ok hj]
      simp only [obs, if_neg one_ne]
      rw [if_neg (fun e => hn ((nI_eq (by omega) (by omega)).mp e)), in_b2, hw]
      simp only [obs, b2_t, if_neg one_ne, opt_ite, hve]
      rw [ix9', ast_ok _ _ _ (by omega) (by omega)]
      simp only [obs]
      rw [ix9', ast_ok _ _ _ (by omega) (by omega)]
      simp only [obs]
      rw [show ip (ip hm 1 (9 * i + j) v) 1 (9 * j + i) v = pr 1 i j v hm from rfl, a1]
      simp only [obs]
      rw [M_roadsOf]
      simp only [obs]
      rw [pr_self, count_same (B := h'.1 2) hS2.2.1 (fun k hk => by rw [a2 k (by omega), pr_self]; exact hS2.1 k hk)]
    · refine hr.setX ⟨t, ?_, ?_⟩ ?_ ?_ (fun r h1 h2 => pr_row _ _ _ _ _ (by omega)) ?_ ?_
      · rw [a6 2 (by omega) (by omega), pr_row _ _ _ _ _ (by omega)]; exact ht
      · rw [pr_self, pr_row _ _ _ _ _ (by omega), pr_row _ _ _ _ _ (by omega), pr_row _ _ _ _ _ (by omega), a5 1 (by omega) (by omega), pr_self]
        exact hS2
      · unfold SiM
        rw [pr_row _ _ _ _ _ (by omega), pr_row _ _ _ _ _ (by omega), pr_row _ _ _ _ _ (by omega), pr_row _ _ _ _ _ (by omega), a5 3 (by omega) (by omega), a6 3 (by omega) (by omega), pr_row _ _ _ _ _ (by omega), pr_row _ _ _ _ _ (by omega)]
        exact hG
      · unfold PaR
        rw [pr_row _ _ _ _ _ (by omega), pr_row _ _ _ _ _ (by omega), a5 4 (by omega) (by omega), a6 5 (by omega) (by omega), pr_row _ _ _ _ _ (by omega), pr_row _ _ _ _ _ (by omega)]
        exact hP
      · rw [a5 12 (by omega) (by omega), pr_row _ _ _ _ _ (by omega)]
      · rw [a5 13 (by omega) (by omega), pr_row _ _ _ _ _ (by omega)]
theorem r_say : op_say Rl := by
  intro hx hm x1 hr
  obtain ⟨⟨t, ht, hS⟩, hG, ⟨n, p1, p2, p3, p4⟩, i1, i2⟩ := id hr
  cases hw : inb x1 33 126 with
  | false =>
    refine ⟨-2, hx, hm, ?_, ?_, hr⟩
    · rw [f_X5_say, wi_eq, in_b2, hw]; rfl
    · rw [f_X6_say, in_b2, hw]; rfl
  | true =>
    obtain ⟨c, c1, c2, rfl⟩ := inb_nI (a := 33) (b := 126) (by omega) (by omega) hw
    by_cases hn : n = 60
    · subst hn
      refine ⟨-4, hx, hm, ?_, ?_, hr⟩
      · rw [f_X5_say, wi_eq, in_b2, hw]
        simp only [obs, b2_t, if_neg one_ne]
        rw [p2, if_neg (show ¬ nI 60 < (60 : Int32) by decide)]
      · rw [f_X6_say, in_b2, hw]
        simp only [obs, b2_t, if_neg one_ne]
        rw [p3, if_pos (show nI 60 = (60 : Int32) from rfl)]
    · have hn2 : n < 60 := by omega
      refine ⟨nI (n + 1), ip (ip hx 10 n (nI c)) 9 1 (nI (n + 1)), ip (ip hm 4 n (nI c)) 0 5 (nI (n + 1)), ?_, ?_, ?_⟩
      · rw [f_X5_say, wi_eq, in_b2, hw]
        simp only [obs, b2_t, if_neg one_ne]
        rw [p2, if_pos (show nI n < (60 : Int32) from nI_lt (b := 60) hn2 (by omega)), f_X1_add, p2, if_pos (show nI n < (60 : Int32) from nI_lt (b := 60) hn2 (by omega)), put_ok _ _ _ hn2 (by omega)]
        simp only [obs]
        rw [ip_row hx 10 _ _ (by omega), p2, nI_succ', ip_s]
      · rw [f_X6_say, in_b2, hw]
        simp only [obs, b2_t, if_neg one_ne]
        rw [p3, if_neg (show ¬ nI n = (60 : Int32) from fun e => hn ((nI_eq (b := 60) (by omega) (by omega)).mp e)), ast_ok _ _ _ hn2 (by omega)]
        simp only [obs]
        rw [ip_row hm 4 _ _ (by omega), p3, nI_succ', ip_s]
      · refine hr.setX ⟨t, ?_, ?_⟩ ?_ ⟨n + 1, by omega, ?_, ?_, fun i hi => ?_⟩ (fun r h1 h2 => by rw [ip_row _ _ _ _ (by omega), ip_row _ _ _ _ (by omega)]) ?_ ?_
        · rw [ip_n _ _ _ _ (Or.inr (by omega)), ip_row _ _ _ _ (by omega)]; exact ht
        · repeat rw [ip_row _ _ _ _ (by omega)]
          exact hS
        · unfold SiM
          rw [ip_n (ip hm 4 n (nI c)) _ _ _ (Or.inr (by omega))]
          repeat rw [ip_row _ _ _ _ (by omega)]
          exact hG
        · rw [ip_s]
        · rw [ip_s]
        · rw [ip_row _ 9 _ _ (by omega), ip_row _ 0 _ _ (by omega)]
          by_cases e : i = n
          · subst e
            rw [ip_s, ip_s]
            exact ⟨rfl, c, c1, c2, rfl⟩
          · rw [ip_n _ _ _ _ (Or.inr e), ip_n _ _ _ _ (Or.inr e)]
            exact p4 i (by omega)
        · repeat rw [ip_row _ _ _ _ (by omega)]
        · repeat rw [ip_row _ _ _ _ (by omega)]
theorem r_forget : op_forget Rl := by
  intro hx hm hr
  obtain ⟨⟨t, ht, hS⟩, ⟨g1, n, g2, g3, g4⟩, ⟨n', p1, p2, p3, p4⟩, i1, i2⟩ := id hr
  refine ⟨hx.1 5 3, ip hx 5 3 0, ip hm 0 3 0, ?_, ?_, ?_⟩
  · rw [f_X5_forget]; rfl
  · rw [f_X6_forget, ← g1]; rfl
  · refine hr.setX ⟨t, ?_, ?_⟩ ⟨?_, 0, by omega, ?_, fun i hi => absurd hi (by omega)⟩ ⟨n', p1, ?_, ?_, ?_⟩ (fun r h1 h2 => by rw [ip_row _ _ _ _ (by omega)]) ?_ ?_
    · rw [ip_n _ _ _ _ (Or.inr (by omega))]; exact ht
    · repeat rw [ip_row _ _ _ _ (by omega)]
      exact hS
    · rw [ip_s, ip_s]
    · rw [ip_s]; rfl
    · rw [ip_row _ _ _ _ (by omega)]; exact p2
    · rw [ip_n _ _ _ _ (Or.inr (by omega))]; exact p3
    · repeat rw [ip_row _ _ _ _ (by omega)]
      exact p4
    · repeat rw [ip_row _ _ _ _ (by omega)]
    · repeat rw [ip_row _ _ _ _ (by omega)]
theorem r_seen : op_seen Rl := by
  intro hx hm x1 x2 x3 hr hz
  obtain ⟨⟨t, ht, hS⟩, ⟨g1, n, g2, g3, g4⟩, ⟨n', p1, p2, p3, p4⟩, i1, i2⟩ := id hr
  have g5 : hm.1 0 3 = nI n := by rw [← g1]; exact g3
  cases hw : inb x2 0 20 with
  | false =>
    refine ⟨-2, hx, hm, ?_, ?_, hr⟩
    · rw [f_X5_seen, wi_eq, in_b2, hw]; rfl
    · rw [f_X6_seen, in_b2, hw]; rfl
  | true =>
    cases hw2 : inb x3 0 9999 with
    | false =>
      refine ⟨-2, hx, hm, ?_, ?_, hr⟩
      · rw [f_X5_seen, wi_eq, in_b2, hw]
        simp only [obs, b2_t, if_neg one_ne]
        rw [wi_eq, in_b2, hw2]; rfl
      · rw [f_X6_seen, in_b2, hw]
        simp only [obs, b2_t, if_neg one_ne]
        rw [in_b2, hw2]; rfl
    | true =>
      by_cases hn : n = 8
      · subst hn
        refine ⟨-4, hx, hm, ?_, ?_, hr⟩
        · rw [f_X5_seen, wi_eq, in_b2, hw]
          simp only [obs, b2_t, if_neg one_ne]
          rw [wi_eq, in_b2, hw2]
          simp only [obs, b2_t, if_neg one_ne]
          rw [g3, if_neg (show ¬ nI 8 < (8 : Int32) by decide)]
        · rw [f_X6_seen, in_b2, hw]
          simp only [obs, b2_t, if_neg one_ne]
          rw [in_b2, hw2]
          simp only [obs, b2_t, if_neg one_ne]
          rw [g5, if_pos (show nI 8 = (8 : Int32) from rfl)]
      · have hn2 : n < 8 := by omega
        have hl : nI n < (8 : Int32) := nI_lt (b := 8) hn2 (by omega)
        have z1 : (3 : Int32) * nI n = nI (3 * n) := pk_mul 3 n
        have z2 : (3 : Int32) * nI n + (1 : Int32) = nI (3 * n + 1) := by rw [z1]; exact nI_succ' _
        have z3 : (3 : Int32) * nI n + (2 : Int32) = nI (3 * n + 2) := by rw [z1]; exact nI_add _ 2
        generalize hk : (if x1 = 0 then (0 : Int32) else 1) = kd
        refine ⟨nI (n + 1), ip (ip (ip (ip hx 6 n kd) 7 n x2) 8 n x3) 5 3 (nI (n + 1)), ip (ip (ip (ip hm 3 (3 * n) kd) 3 (3 * n + 1) x2) 3 (3 * n + 2) x3) 0 3 (nI (n + 1)), ?_, ?_, ?_⟩
        · rw [f_X5_seen, wi_eq, in_b2, hw]
          simp only [obs, b2_t, if_neg one_ne]
          rw [wi_eq, in_b2, hw2]
          simp only [obs, b2_t, if_neg one_ne]
          rw [g3, if_pos hl]
          simp only [opt_ite, obs, hk]
          rw [f_X3_add, g3, if_pos hl, put_ok _ _ _ hn2 (by omega)]
          simp only [obs]
          rw [ip_row _ _ _ _ (by omega), g3, put_ok _ _ _ hn2 (by omega)]
          simp only [obs]
          rw [ip_row _ _ _ _ (by omega), ip_row _ _ _ _ (by omega), g3, put_ok _ _ _ hn2 (by omega)]
          simp only [obs]
          rw [ip_row _ (5 + 3) _ _ (by omega), ip_row _ (5 + 2) _ _ (by omega), ip_row _ (5 + 1) _ _ (by omega), g3, nI_succ', ip_s]
        · rw [f_X6_seen, in_b2, hw]
          simp only [obs, b2_t, if_neg one_ne]
          rw [in_b2, hw2]
          simp only [obs, b2_t, if_neg one_ne]
          rw [g5, if_neg (show ¬ nI n = (8 : Int32) from fun e => hn ((nI_eq (b := 8) (by omega) (by omega)).mp e))]
          simp only [opt_ite, obs, hk]
          rw [z1, ast_ok _ _ _ (by omega) (by omega)]
          simp only [obs]
          rw [ip_row _ _ _ _ (by omega), g5, z2, ast_ok _ _ _ (by omega) (by omega)]
          simp only [obs]
          rw [ip_row _ _ _ _ (by omega), ip_row _ _ _ _ (by omega), g5, z3, ast_ok _ _ _ (by omega) (by omega)]
          simp only [obs]
          rw [ip_row (ip (ip hm 3 _ _) 3 _ _) 3 _ _ (by omega), ip_row (ip hm 3 _ _) 3 _ _ (by omega), ip_row hm 3 _ _ (by omega), g5, nI_succ', ip_s]
        · refine hr.setX ⟨t, ?_, ?_⟩ ⟨?_, n + 1, by omega, ?_, fun i hi => ?_⟩ ⟨n', p1, ?_, ?_, ?_⟩ (fun r h1 h2 => by repeat rw [ip_row _ _ _ _ (by omega)]) ?_ ?_
          · rw [ip_n _ _ _ _ (Or.inr (by omega))]
            repeat rw [ip_row _ _ _ _ (by omega)]
            exact ht
          · repeat rw [ip_row _ _ _ _ (by omega)]
            exact hS
          · rw [ip_s, ip_s]
          · rw [ip_s]
          · rw [ip_row _ 5 _ _ (by omega), ip_row _ 5 _ _ (by omega), ip_row _ 5 _ _ (by omega), ip_row _ 0 _ _ (by omega), ip_row _ 8 _ _ (by omega), ip_row _ 8 _ _ (by omega), ip_row _ 7 _ _ (by omega)]
            by_cases e : i = n
            · subst e
              refine ⟨?_, ?_, ?_⟩
              · rw [ip_s, ip_n _ _ _ _ (Or.inr (by omega)), ip_n _ _ _ _ (Or.inr (by omega)), ip_s]
              · rw [ip_s, ip_n _ _ _ _ (Or.inr (by omega)), ip_s]
              · rw [ip_s, ip_s]
            · have q := g4 i (by omega)
              refine ⟨?_, ?_, ?_⟩
              · rw [ip_n _ _ _ _ (Or.inr e), ip_n _ _ _ _ (Or.inr (by omega)), ip_n _ _ _ _ (Or.inr (by omega)), ip_n _ _ _ _ (Or.inr (by omega))]; exact q.1
              · rw [ip_n _ _ _ _ (Or.inr e), ip_row _ 6 _ _ (by omega), ip_n _ _ _ _ (Or.inr (by omega)), ip_n _ _ _ _ (Or.inr (by omega)), ip_n _ _ _ _ (Or.inr (by omega))]; exact q.2.1
              · rw [ip_n _ _ _ _ (Or.inr e), ip_row _ 7 _ _ (by omega), ip_row _ 6 _ _ (by omega), ip_n _ _ _ _ (Or.inr (by omega)), ip_n _ _ _ _ (Or.inr (by omega)), ip_n _ _ _ _ (Or.inr (by omega))]; exact q.2.2
          · repeat rw [ip_row _ _ _ _ (by omega)]
            exact p2
          · rw [ip_n _ _ _ _ (Or.inr (by omega))]
            repeat rw [ip_row _ _ _ _ (by omega)]
            exact p3
          · repeat rw [ip_row _ _ _ _ (by omega)]
            exact p4
          · repeat rw [ip_row _ _ _ _ (by omega)]
          · repeat rw [ip_row _ _ _ _ (by omega)]
