/-! OPS: restore, told. -/
theorem restore_same {hx hm : Hp} (hr : Rl hx hm) (b n : Nat) (hbn : (b = 16 ∧ n = 0) ∨ (b = 25 ∧ n = 1)) (hI : ImR b n hx hm) : ∃ r hx' hm', Rl hx' hm' ∧ (if (hx.1 b 2) = 0 then (some ((-3 : Int32), hx)) else (Option.bind (f_X2_copyFrom 1 (b + 1) hx) fun h4 => Option.bind (f_X3_copyFrom 5 (b + 5) h4) fun h5 => some ((1 : Int32), h5))) = some (r, hx') ∧ f_X6_restore (nI n) hm = some (r, hm') := by
  obtain ⟨⟨t, ht, hS⟩, hG, hP, i1, i2⟩ := id hr
  have hin : f_X6_in (nI n) (0 : Int32) (1 : Int32) = some 1 := in_ok (a := 0) (b := 1) (by omega) (by omega) (by omega)
  obtain ⟨k1, k2⟩ := hI
  rcases k2 with k2 | ⟨k2, ⟨t', k3, k4⟩, k5⟩
  · refine ⟨-3, hx, hm, hr, by rw [if_pos k2], ?_⟩
    rw [f_X6_restore, hin]
    simp only [obs, if_neg one_ne]
    rw [ald_ok _ _ (by omega) (by omega), ← k1, k2]
    simp only [obs, if_true]
  · obtain ⟨h1, a1, a2, a3, a4, a5, a6, a7⟩ := X2_copy 1 (b + 1) hx (by omega)
    obtain ⟨h2, b1, b2, b3, b4, b5, b6⟩ := X3_copy 5 (b + 5) h1 (by omega)
    obtain ⟨m1, e1⟩ : ∃ m, m = cpI hm 12 1 (120 * n) 89 := ⟨_, rfl⟩
    obtain ⟨m2, e2⟩ : ∃ m, m = cpI m1 12 3 (120 * n + 89) 24 := ⟨_, rfl⟩
    have r2 : ∀ r, r ≠ 1 → r ≠ 3 → m2.1 r = hm.1 r := fun r h1 h3 => by rw [e2, cpI_row _ _ _ _ _ h3, e1, cpI_row _ _ _ _ _ h1]
    obtain ⟨m3, e3⟩ : ∃ m, m = ip (ip m2 0 2 (hm.1 12 (120 * n + 115))) 0 3 (hm.1 12 (120 * n + 116)) := ⟨_, rfl⟩
    have r3 : ∀ r, r ≠ 0 → m3.1 r = m2.1 r := fun r h => by rw [e3, ip_row _ _ _ _ h, ip_row _ _ _ _ h]
    refine ⟨1, h2, m3, ?_, ?_, ?_⟩
    · refine hr.setX ⟨t', ?_, ?_⟩ ?_ ?_ (fun r h1 h2 => by rw [b6 r (by omega), a7 r (by omega)]) (by rw [r3 12 (by omega), r2 12 (by omega) (by omega)]) (by rw [r3 13 (by omega), r2 13 (by omega) (by omega)])
      · rw [e3, ip_n _ _ _ _ (Or.inr (by omega)), ip_s]; exact k3
      · refine k4.congr (fun k hk => ?_) (fun k hk => ?_) (fun k hk => ?_) ?_ (fun k hk => ?_)
        · rw [b6 2 (by omega)]; exact a2 k hk
        · rw [b6 3 (by omega)]; exact a3 k hk
        · rw [b6 4 (by omega)]; exact a4 k hk
        · rw [b6 1 (by omega)]; exact a5
        · rw [r3 1 (by omega), e2, cpI_row _ _ _ _ _ (by omega), e1, cpI_in _ _ _ _ _ hk]
      · refine SgR.congr k5 (fun k hk => ?_) (fun k hk => ?_) (fun k hk => ?_) ?_ (fun k hk => ?_) ?_
        · exact (b2 k hk).trans (by rw [a7 _ (by omega)])
        · exact (b3 k hk).trans (by rw [a7 _ (by omega)])
        · exact (b4 k hk).trans (by rw [a7 _ (by omega)])
        · exact b5.trans (by rw [a7 _ (by omega)])
        · rw [r3 3 (by omega), e2, cpI_in _ _ _ _ _ hk, e1, cpI_row _ _ _ _ _ (by omega)]
        · rw [e3, ip_s]
      · unfold PaR
        rw [b6 9 (by omega), a7 9 (by omega), b6 10 (by omega), a7 10 (by omega), r3 4 (by omega), r2 4 (by omega) (by omega), e3, ip_n _ _ _ _ (Or.inr (by omega)), ip_n _ _ _ _ (Or.inr (by omega)), r2 0 (by omega) (by omega)]
        exact hP
    · rw [if_neg (by rw [k2]; decide), a1]
      simp only [obs]
      rw [b1]
      rfl
    · rw [f_X6_restore, hin]
      simp only [obs, if_neg one_ne]
      rw [ald_ok _ _ (by omega) (by omega), ← k1, k2]
      simp only [obs, if_neg one_ne]
      rw [show (120 : Int32) * nI n = nI (120 * n) from pk_mul 120 n, M_re31 _ (by omega), ← e1, M_re59 _ (by omega), ← e2]
      rw [show (115 : Int32) = nI 115 from rfl, show (116 : Int32) = nI 116 from rfl, nI_add, nI_add, ald_ok _ _ (by omega) (by omega), r2 12 (by omega) (by omega)]
      simp only [obs]
      rw [ald_ok _ _ (by omega) (by omega), ip_row _ 0 _ _ (by omega), r2 12 (by omega) (by omega)]
      simp only [obs]
      rw [← e3]
theorem r_restore : op_restore Rl := by
  intro hx hm x1 hr
  rcases in_cases x1 0 1 (by omega) (by omega) with ⟨e, -⟩ | ⟨n, -, hn, rfl, e⟩
  · exact ⟨-2, hx, hm, by rw [f_X5_restore, wi_eq, show f_X6_in x1 (0 : Int32) (1 : Int32) = some 0 from e]; rfl, by rw [f_X6_restore, show f_X6_in x1 (0 : Int32) (1 : Int32) = some 0 from e]; rfl, hr⟩
  · have hn2 : n = 0 ∨ n = 1 := by omega
    rcases hn2 with rfl | rfl
    · obtain ⟨r, hx', hm', h1, h2, h3⟩ := restore_same hr 16 0 (Or.inl ⟨rfl, rfl⟩) hr.2.2.2.1
      refine ⟨r, hx', hm', ?_, h3, h1⟩
      rw [f_X5_restore, wi_eq, show f_X6_in (nI 0) (0 : Int32) (1 : Int32) = some 1 from e]
      simp only [obs, if_neg one_ne]
      rw [if_pos (show nI 0 = 0 from rfl)]
      exact h2
    · obtain ⟨r, hx', hm', h1, h2, h3⟩ := restore_same hr 25 1 (Or.inr ⟨rfl, rfl⟩) hr.2.2.2.2
      refine ⟨r, hx', hm', ?_, h3, h1⟩
      rw [f_X5_restore, wi_eq, show f_X6_in (nI 1) (0 : Int32) (1 : Int32) = some 1 from e]
      simp only [obs, if_neg one_ne]
      rw [if_neg (show ¬ nI 1 = 0 by decide)]
      exact h2
theorem irem_nI {a d : Nat} (ha : a < 2 ^ 31) (h0 : 0 < d) (hd : d < 2 ^ 31) : irem (nI a) (nI d) = nI (a % d) := pk_rem ha h0 hd
theorem div_nI {a d : Nat} (ha : a < 2 ^ 31) (h0 : 0 < d) (hd : d < 2 ^ 31) : nI a / nI d = nI (a / d) := pk_div ha h0 hd
theorem in_n {w a b : Nat} (hw : w < 2 ^ 31) (hb : b < 2 ^ 31) (ha : a < 2 ^ 31) : f_X6_in (nI w) (nI a) (nI b) = some (if a ≤ w ∧ w ≤ b then 1 else 0) := by
  by_cases h1 : a ≤ w
  · by_cases h2 : w ≤ b
    · rw [in_ok h1 h2 hb, if_pos ⟨h1, h2⟩]
    · rw [in_hi (by omega) hw, if_neg (by omega)]
  · rw [in_lo (by omega) ha, if_neg (by omega)]
theorem in_neg {x : Int32} {a b : Nat} (ha : a < 2 ^ 31) (hx : x < 0) : f_X6_in x (nI a) (nI b) = some 0 := by
  rw [f_X6_in, if_pos]
  rw [Int32.lt_iff_toInt_lt] at hx ⊢
  rw [nI_toInt ha]
  have : (0 : Int32).toInt = 0 := by decide
  omega
theorem lt_n {w c : Nat} (hw : w < 2 ^ 31) (hc : c < 2 ^ 31) : (nI w < nI c) ↔ w < c := nI_ltI hw hc
theorem X_told_n {hx : Hp} {w : Nat} (hw : w < 2 ^ 31) : f_X5_told (nI w) hx = (if w = 0 then some (hx.1 9 1) else if w = 1 then f_X2_walkersThere 1 hx else if w = 2 then some (hx.1 1 3) else if w = 3 then some (hx.1 5 3) else if 10 ≤ w ∧ w ≤ 19 then (Option.bind (f_X2_isThere 1 (nI (w - 10)) hx) fun v => if v = 0 then some (-2) else f_X2_placeOf 1 (nI (w - 10)) hx) else if 20 ≤ w ∧ w ≤ 29 then (Option.bind (f_X2_isThere 1 (nI (w - 20)) hx) fun v => if v = 0 then some (-2) else f_X2_ironOf 1 (nI (w - 20)) hx) else if 30 ≤ w ∧ w ≤ 39 then (Option.bind (f_X5_isPlace (nI (w - 30))) fun v => if v = 0 then some (-2) else f_X2_openFrom 1 (nI (w - 30)) hx) else if 100 ≤ w ∧ w ≤ 199 then (Option.bind (f_X5_isPlace (nI ((w - 100) / 10))) fun v => if v = 0 then some (-2) else Option.bind (f_X5_isPlace (nI ((w - 100) % 10))) fun v => if v = 0 then some (-2) else f_X2_roadBetween 1 (nI ((w - 100) / 10)) (nI ((w - 100) % 10)) hx) else some (-2)) := by
  have bs : ∀ x : Option Int32, (Option.bind x fun v => some v) = x := fun x => by cases x <;> rfl
  have q : ∀ c : Nat, c < 2 ^ 31 → ((nI w = nI c) ↔ w = c) := fun c hc => nI_eq hw hc
  rw [f_X5_told]
  by_cases h0 : w = 0
  · rw [if_pos h0, if_pos (show nI w = 0 from (q 0 (by omega)).mpr h0)]
  rw [if_neg h0, if_neg (show ¬ nI w = 0 from fun e => h0 ((q 0 (by omega)).mp e))]
  by_cases h1 : w = 1
  · rw [if_pos h1, if_pos (show nI w = 1 from (q 1 (by omega)).mpr h1), bs]
  rw [if_neg h1, if_neg (show ¬ nI w = 1 from fun e => h1 ((q 1 (by omega)).mp e))]
  by_cases h2 : w = 2
  · rw [if_pos h2, if_pos (show nI w = 2 from (q 2 (by omega)).mpr h2)]
  rw [if_neg h2, if_neg (show ¬ nI w = 2 from fun e => h2 ((q 2 (by omega)).mp e))]
  by_cases h3 : w = 3
  · rw [if_pos h3, if_pos (show nI w = 3 from (q 3 (by omega)).mpr h3)]
  rw [if_neg h3, if_neg (show ¬ nI w = 3 from fun e => h3 ((q 3 (by omega)).mp e))]
  simp only [wi_eq, bs]
  rw [show f_X6_in (nI w) (10 : Int32) (19 : Int32) = _ from in_n (a := 10) (b := 19) hw (by omega) (by omega)]
  by_cases h4 : 10 ≤ w ∧ w ≤ 19
  · rw [if_pos h4, if_pos h4]
    simp only [obs, if_neg one_ne]
    rw [show nI w - (10 : Int32) = nI (w - 10) from pk_sub h4.1]
  rw [if_neg h4, if_neg h4]
  simp only [obs, if_true]
  rw [show f_X6_in (nI w) (20 : Int32) (29 : Int32) = _ from in_n (a := 20) (b := 29) hw (by omega) (by omega)]
  by_cases h5 : 20 ≤ w ∧ w ≤ 29
  · rw [if_pos h5, if_pos h5]
    simp only [obs, if_neg one_ne]
    rw [show nI w - (20 : Int32) = nI (w - 20) from pk_sub h5.1]
  rw [if_neg h5, if_neg h5]
  simp only [obs, if_true]
  rw [show f_X6_in (nI w) (30 : Int32) (39 : Int32) = _ from in_n (a := 30) (b := 39) hw (by omega) (by omega)]
  by_cases h6 : 30 ≤ w ∧ w ≤ 39
  · rw [if_pos h6, if_pos h6]
    simp only [obs, if_neg one_ne]
    rw [show nI w - (30 : Int32) = nI (w - 30) from pk_sub h6.1]
  rw [if_neg h6, if_neg h6]
  simp only [obs, if_true]
  rw [show f_X6_in (nI w) (100 : Int32) (199 : Int32) = _ from in_n (a := 100) (b := 199) hw (by omega) (by omega)]
  by_cases h7 : 100 ≤ w ∧ w ≤ 199
  · rw [if_pos h7, if_pos h7]
    simp only [obs, if_neg one_ne]
    rw [show nI w - (100 : Int32) = nI (w - 100) from pk_sub h7.1, show nI (w - 100) / (10 : Int32) = nI ((w - 100) / 10) from div_nI (d := 10) (by omega) (by omega) (by omega), show irem (nI (w - 100)) (10 : Int32) = nI ((w - 100) % 10) from irem_nI (d := 10) (by omega) (by omega) (by omega)]
  rw [if_neg h7, if_neg h7]
  simp only [obs, if_true]
theorem nlt_n {w c : Nat} (hw : w < 2 ^ 31) (h : c ≤ w) : ¬ nI w < nI c := nI_nlt h hw
theorem r_told : op_told Rl := by
  intro hx hm x1 hr
  obtain ⟨⟨t, ht, hS⟩, hG, ⟨n', p1, p2, p3, p4⟩, i1, i2⟩ := id hr
  obtain ⟨i, d, e1, e2, e3, e4, e5, e6⟩ := hS.2.2.1
  obtain ⟨h', a1, a2, a3, a4, a5, a6⟩ := M_asNow hm
  have hr' : Rl hx h' := hr.frame (eqX.rf _) (eqM_asNow a5 a6)
  by_cases hn : x1 < 0
  · refine ⟨-2, h', ?_, ?_, hr'⟩
    · have ne : ∀ c : Nat, c < 2 ^ 31 → ¬ x1 = nI c := fun c hc e => nI_pos hc (e ▸ hn)
      rw [f_X5_told, if_neg (show ¬ x1 = (0 : Int32) from ne 0 (by omega)), if_neg (show ¬ x1 = (1 : Int32) from ne 1 (by omega)), if_neg (show ¬ x1 = (2 : Int32) from ne 2 (by omega)), if_neg (show ¬ x1 = (3 : Int32) from ne 3 (by omega))]
      simp only [wi_eq]
      rw [show f_X6_in x1 (10 : Int32) (19 : Int32) = some 0 from in_neg (a := 10) (b := 19) (by omega) hn]
      simp only [obs, if_true]
      rw [show f_X6_in x1 (20 : Int32) (29 : Int32) = some 0 from in_neg (a := 20) (b := 29) (by omega) hn]
      simp only [obs, if_true]
      rw [show f_X6_in x1 (30 : Int32) (39 : Int32) = some 0 from in_neg (a := 30) (b := 39) (by omega) hn]
      simp only [obs, if_true]
      rw [show f_X6_in x1 (100 : Int32) (199 : Int32) = some 0 from in_neg (a := 100) (b := 199) (by omega) hn]
      simp only [obs, if_true]
    · have ne : ∀ c : Nat, c < 2 ^ 31 → ¬ x1 = nI c := fun c hc e => nI_pos hc (e ▸ hn)
      have lt : ∀ c : Nat, c < 2 ^ 31 → x1 < nI c := fun c hc => by
        rw [Int32.lt_iff_toInt_lt] at hn ⊢
        rw [nI_toInt hc]
        have : (0 : Int32).toInt = 0 := by decide
        omega
      rw [f_X6_told, if_pos (show x1 < (100 : Int32) from lt 100 (by omega)), a1]
      simp only [obs]
      rw [if_pos (show x1 < (30 : Int32) from lt 30 (by omega)), if_pos (show x1 < (10 : Int32) from lt 10 (by omega)), if_neg (show ¬ x1 = (0 : Int32) from ne 0 (by omega)), if_neg (show ¬ x1 = (1 : Int32) from ne 1 (by omega)), if_neg (show ¬ x1 = (2 : Int32) from ne 2 (by omega)), if_neg (show ¬ x1 = (3 : Int32) from ne 3 (by omega))]
  · obtain ⟨w, hw, rfl⟩ := nI_of hn
    rw [X_told_n hw]
    by_cases hb : w < 100
    · have hM : f_X6_told (nI w) hm = (if nI w < (30 : Int32) then (if nI w < (10 : Int32) then (if nI w = (0 : Int32) then (some ((h'.1 0 5), h')) else (if nI w = (1 : Int32) then (some ((h'.1 0 2), h')) else (if nI w = (2 : Int32) then (Option.bind (ald 89 h' 1 (88 : Int32)) fun v2 => some (v2, h')) else (if nI w = (3 : Int32) then (some ((h'.1 0 3), h')) else (some ((-2 : Int32), h')))))) else (Option.bind (some (irem (nI w) (10 : Int32))) fun v3 => Option.bind (f_X6_isThere v3 h') fun v4 => if v4 = 0 then (some ((-2 : Int32), h')) else (if (20 : Int32) ≤ nI w then (Option.bind (ald 89 h' 1 (87 : Int32)) fun v5 => some (((v5 >>> (v3 &&& 31)) &&& (1 : Int32)), h')) else (Option.bind (ald 89 h' 1 ((81 : Int32) + v3)) fun v6 => some (v6, h'))))) else (Option.bind (f_X6_in (nI w) (30 : Int32) (38 : Int32)) fun v7 => if v7 = 0 then (some ((-2 : Int32), h')) else (Option.bind (f_X6_openFrom (nI w - (30 : Int32)) h') fun v8 => some (v8, h')))) := by
        rw [f_X6_told, if_pos (show nI w < (100 : Int32) from (lt_n (c := 100) hw (by omega)).mpr hb), a1]
        rfl
      rw [hM]
      by_cases h10 : w < 10
      · rw [if_pos (show nI w < (30 : Int32) from (lt_n (c := 30) hw (by omega)).mpr (by omega)), if_pos (show nI w < (10 : Int32) from (lt_n (c := 10) hw (by omega)).mpr h10)]
        rw [if_neg (show ¬ (10 ≤ w ∧ w ≤ 19) by omega), if_neg (show ¬ (20 ≤ w ∧ w ≤ 29) by omega), if_neg (show ¬ (30 ≤ w ∧ w ≤ 39) by omega), if_neg (show ¬ (100 ≤ w ∧ w ≤ 199) by omega)]
        have q : ∀ c : Nat, c < 2 ^ 31 → ((nI w = nI c) ↔ w = c) := fun c hc => nI_eq hw hc
        by_cases h0 : w = 0
        · refine ⟨nI n', h', by rw [if_pos h0, p2], ?_, hr'⟩
          rw [if_pos (show nI w = (0 : Int32) from (q 0 (by omega)).mpr h0), a6 5 (by omega) (by omega), p3]
        · rw [if_neg h0, if_neg (show ¬ nI w = (0 : Int32) from fun e => h0 ((q 0 (by omega)).mp e))]
          by_cases h1 : w = 1
          · refine ⟨nI t, h', ?_, ?_, hr'⟩
            · rw [if_pos h1, X_walkersThere, msk_congr (g := t.testBit) (fun j hj => hS.there hj), msk_self hS.2.2.2.1]
            · rw [if_pos (show nI w = (1 : Int32) from (q 1 (by omega)).mpr h1), a6 2 (by omega) (by omega), ht]
          · rw [if_neg h1, if_neg (show ¬ nI w = (1 : Int32) from fun e => h1 ((q 1 (by omega)).mp e))]
            by_cases h2 : w = 2
            · refine ⟨nI d, h', by rw [if_pos h2, e4], ?_, hr'⟩
              rw [if_pos (show nI w = (2 : Int32) from (q 2 (by omega)).mpr h2), show (88 : Int32) = nI 88 from rfl, ald_ok _ _ (by omega) (by omega), a5 1 (by omega) (by omega), e3]
              rfl
            · rw [if_neg h2, if_neg (show ¬ nI w = (2 : Int32) from fun e => h2 ((q 2 (by omega)).mp e))]
              by_cases h3 : w = 3
              · refine ⟨hx.1 5 3, h', by rw [if_pos h3], ?_, hr'⟩
                rw [if_pos (show nI w = (3 : Int32) from (q 3 (by omega)).mpr h3), a6 3 (by omega) (by omega), ← hG.1]
              · exact ⟨-2, h', by rw [if_neg h3], by rw [if_neg (show ¬ nI w = (3 : Int32) from fun e => h3 ((q 3 (by omega)).mp e))], hr'⟩
      · rw [if_neg (show ¬ w = 0 by omega), if_neg (show ¬ w = 1 by omega), if_neg (show ¬ w = 2 by omega), if_neg (show ¬ w = 3 by omega)]
        by_cases h30 : w < 30
        · rw [if_pos (show nI w < (30 : Int32) from (lt_n (c := 30) hw (by omega)).mpr h30), if_neg (show ¬ nI w < (10 : Int32) from nlt_n (c := 10) hw (by omega))]
          simp only [obs]
          rw [show irem (nI w) (10 : Int32) = nI (w % 10) from irem_nI (d := 10) hw (by omega) (by omega)]
          by_cases hk : w % 10 < 6
          · rw [M_isThere h' hk (by rw [a6 2 (by omega) (by omega)]; exact ht) hS.2.2.2.1]
            simp only [obs]
            by_cases h20 : w < 20
            · have ew : w - 10 = w % 10 := by omega
              rw [if_pos (show 10 ≤ w ∧ w ≤ 19 by omega), ew, X_isThere 1 hx hk, hS.there hk]
              simp only [obs]
              rcases hS.2.2.2.2 _ hk with ⟨f1, p, f2, f3, f4⟩ | ⟨f1, f2⟩
              · refine ⟨nI p, h', ?_, ?_, hr'⟩
                · rw [f1, if_neg (by decide), X_placeOf 1 hx hk, f4]
                · rw [f1, if_neg (by decide), if_neg (show ¬ (20 : Int32) ≤ nI w from nI_ge (b := 20) h20 (by omega)), ix81, ald_ok _ _ (by omega) (by omega), a5 1 (by omega) (by omega), f3]
                  rfl
              · exact ⟨-2, h', by rw [f1, if_pos b2_f], by rw [f1, if_pos b2_f], hr'⟩
            · have ew : w - 20 = w % 10 := by omega
              rw [if_neg (show ¬ (10 ≤ w ∧ w ≤ 19) by omega), if_pos (show 20 ≤ w ∧ w ≤ 29 by omega), ew, X_isThere 1 hx hk, hS.there hk]
              simp only [obs]
              rcases hS.2.2.2.2 _ hk with ⟨f1, p, f2, f3, f4⟩ | ⟨f1, f2⟩
              · refine ⟨b2 (i.testBit (w % 10)), h', ?_, ?_, hr'⟩
                · rw [f1, if_neg (by decide), X_ironOf 1 hx hk, e6 _ hk]
                · rw [f1, if_neg (by decide), if_pos (show (20 : Int32) ≤ nI w from nI_le (a := 20) (by omega) hw), show (87 : Int32) = nI 87 from rfl, ald_ok _ _ (by omega) (by omega), a5 1 (by omega) (by omega), e1]
                  simp only [obs]
                  rw [bit_nI (by omega) (by omega)]
              · exact ⟨-2, h', by rw [f1, if_pos b2_f], by rw [f1, if_pos b2_f], hr'⟩
          · refine ⟨-2, h', ?_, ?_, hr'⟩
            · by_cases h20 : w < 20
              · rw [if_pos (show 10 ≤ w ∧ w ≤ 19 by omega), X_isThere_no 1 hx (Or.inr (nI_le (a := 6) (by omega) (by omega)))]
                rfl
              · rw [if_neg (show ¬ (10 ≤ w ∧ w ≤ 19) by omega), if_pos (show 20 ≤ w ∧ w ≤ 29 by omega), X_isThere_no 1 hx (Or.inr (nI_le (a := 6) (by omega) (by omega)))]
                rfl
            · rw [M_isThere_no h' (Or.inr (nI_le (a := 6) (by omega) (by omega)))]
              rfl
        · rw [if_neg (show ¬ nI w < (30 : Int32) from nlt_n (c := 30) hw (by omega)), if_neg (show ¬ (10 ≤ w ∧ w ≤ 19) by omega), if_neg (show ¬ (20 ≤ w ∧ w ≤ 29) by omega)]
          rw [show f_X6_in (nI w) (30 : Int32) (38 : Int32) = _ from in_n (a := 30) (b := 38) hw (by omega) (by omega)]
          by_cases h38 : w ≤ 38
          · rw [if_pos (show 30 ≤ w ∧ w ≤ 39 by omega), if_pos (show 30 ≤ w ∧ w ≤ 38 by omega), isPlace_ok (show w - 30 < 9 by omega)]
            simp only [obs, if_neg one_ne]
            rw [show nI w - (30 : Int32) = nI (w - 30) from pk_sub (b := 30) (by omega), X_openFrom 1 hx (by omega) hS.diag, M_openFrom h' (by omega)]
            refine ⟨_, h', rfl, ?_, hr'⟩
            simp only [obs]
            rw [msk_congr (g := opn (hx.1 2) (w - 30)) (fun k hk => by unfold opn; rw [a2 _ (by omega), hS.1 _ (by omega)])]
          · rw [if_neg (show ¬ (30 ≤ w ∧ w ≤ 38) by omega), if_neg (show ¬ (100 ≤ w ∧ w ≤ 199) by omega)]
            refine ⟨-2, h', ?_, rfl, hr'⟩
            by_cases h39 : w ≤ 39
            · rw [if_pos (show 30 ≤ w ∧ w ≤ 39 by omega), isPlace_no (Or.inr (nI_le (a := 9) (by omega) (by omega)))]
              rfl
            · rw [if_neg (show ¬ (30 ≤ w ∧ w ≤ 39) by omega)]
    · rw [if_neg (show ¬ w = 0 by omega), if_neg (show ¬ w = 1 by omega), if_neg (show ¬ w = 2 by omega), if_neg (show ¬ w = 3 by omega), if_neg (show ¬ (10 ≤ w ∧ w ≤ 19) by omega), if_neg (show ¬ (20 ≤ w ∧ w ≤ 29) by omega), if_neg (show ¬ (30 ≤ w ∧ w ≤ 39) by omega)]
      rw [f_X6_told, if_neg (show ¬ nI w < (100 : Int32) from nlt_n (c := 100) hw (by omega))]
      rw [show nI w / (10 : Int32) = nI (w / 10) from div_nI (d := 10) hw (by omega) (by omega), show nI (w / 10) - (10 : Int32) = nI (w / 10 - 10) from pk_sub (b := 10) (by omega), show irem (nI w) (10 : Int32) = nI (w % 10) from irem_nI (d := 10) hw (by omega) (by omega)]
      simp only [obs]
      by_cases h199 : w ≤ 199
      · have g1 : (w - 100) / 10 = w / 10 - 10 := by omega
        have g2 : (w - 100) % 10 = w % 10 := by omega
        rw [if_pos (show 100 ≤ w ∧ w ≤ 199 by omega), g1, g2]
        by_cases ha : w / 10 - 10 < 9
        · rw [isPlace_ok ha, mPlace_ok ha]
          simp only [obs, if_neg one_ne]
          by_cases hb9 : w % 10 < 9
          · rw [isPlace_ok hb9, mPlace_ok hb9]
            simp only [obs, if_neg one_ne]
            rw [X_road 1 hx ha hb9 hS.diag, ix9', ald_ok _ _ (by omega) (by omega)]
            exact ⟨_, hm, rfl, by rw [← hS.1 _ (by omega)]; rfl, hr⟩
          · rw [isPlace_no (Or.inr (nI_le (a := 9) (by omega) (by omega))), mPlace_no (Or.inr (nI_le (a := 9) (by omega) (by omega)))]
            exact ⟨-2, hm, rfl, rfl, hr⟩
        · rw [isPlace_no (Or.inr (nI_le (a := 9) (by omega) (by omega))), mPlace_no (Or.inr (nI_le (a := 9) (by omega) (by omega)))]
          exact ⟨-2, hm, rfl, rfl, hr⟩
      · rw [if_neg (show ¬ (100 ≤ w ∧ w ≤ 199) by omega), mPlace_no (Or.inr (nI_le (a := 9) (by omega) (by omega)))]
        exact ⟨-2, hm, rfl, rfl, hr⟩
