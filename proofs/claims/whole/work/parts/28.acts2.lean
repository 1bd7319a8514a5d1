/-! ACTS: a day, a walk. -/
def stepD (v : Int32) : Int32 := if v = 101 then 0 else if v ≤ 101 then v else v - 1
def dayH (h : Hp) (r k : Nat) : Hp := (fun a b => if a = r ∧ b < k then stepD (h.1 r b) else h.1 a b, h.2)
theorem dayH_0 (h : Hp) (r : Nat) : dayH h r 0 = h := by
  unfold dayH
  simp
theorem dayH_s (h : Hp) (r k : Nat) : ip (dayH h r k) r k (stepD (h.1 r k)) = dayH h r (k + 1) := by
  refine Prod.ext ?_ rfl
  funext a b
  rw [ip_at]
  simp only [dayH]
  by_cases ha : a = r
  · subst ha
    by_cases hb : b = k
    · subst hb; simp
    · by_cases hk : b < k
      · rw [if_neg (by omega), if_pos ⟨rfl, hk⟩, if_pos ⟨rfl, by omega⟩]
      · rw [if_neg (by omega), if_neg (by omega), if_neg (by omega)]
  · simp [ha]
theorem dayH_k (h : Hp) (r k : Nat) : (dayH h r k).1 r k = h.1 r k := by
  unfold dayH
  simp
theorem dayH_same (h : Hp) (r k : Nat) (e : stepD (h.1 r k) = h.1 r k) : dayH h r (k + 1) = dayH h r k := by
  rw [← dayH_s, e]
  refine Prod.ext ?_ rfl
  funext a b
  rw [ip_at]
  by_cases q : a = r ∧ b = k
  · rw [if_pos q, q.1, q.2, dayH_k]
  · rw [if_neg q]
theorem dayH_row (h : Hp) (r k : Nat) {r' : Nat} (hr : r' ≠ r) : (dayH h r k).1 r' = h.1 r' := by
  unfold dayH
  funext b
  simp [hr]
theorem dayH_in (h : Hp) (r k : Nat) {b : Nat} (hb : b < k) : (dayH h r k).1 r b = stepD (h.1 r b) := by
  unfold dayH
  simp [hb]
theorem dayH_out (h : Hp) (r k : Nat) {b : Nat} (hb : k ≤ b) : (dayH h r k).1 r b = h.1 r b := by
  unfold dayH
  show (if r = r ∧ b < k then _ else h.1 r b) = _
  rw [if_neg (by omega)]
theorem okv_step {v : Int32} (h : okv v) : okv (stepD v) ∧ ((v ≤ 100 ∧ stepD v = v) ∨ (¬ v ≤ 100 ∧ stepD v = if v = 101 then 0 else v - 1)) := by
  rcases h with rfl | ⟨w, hw, rfl⟩ | ⟨w, h1, h2, rfl⟩
  · exact ⟨by unfold stepD; rw [if_neg (by decide), if_pos (by decide)]; exact okv_n6, Or.inl ⟨by decide, by decide⟩⟩
  · have e1 : ¬ nI w = 101 := fun q => by have := (nI_eq (a := w) (b := 101) (by omega) (by omega)).mp q; omega
    have e2 : nI w ≤ 101 := nI_le (b := 101) (by omega) (by omega)
    have e3 : stepD (nI w) = nI w := by unfold stepD; rw [if_neg e1, if_pos e2]
    exact ⟨by rw [e3]; exact Or.inr (Or.inl ⟨w, hw, rfl⟩), Or.inl ⟨nI_le (b := 100) (by omega) (by omega), e3⟩⟩
  · have e0 : ¬ nI w ≤ 100 := nI_ge (a := 100) (by omega) (by omega)
    by_cases e1 : w = 101
    · subst e1
      exact ⟨Or.inr (Or.inl ⟨0, by omega, rfl⟩), Or.inr ⟨e0, rfl⟩⟩
    · have e2 : ¬ nI w = 101 := fun q => e1 ((nI_eq (a := w) (b := 101) (by omega) (by omega)).mp q)
      have e3 : ¬ nI w ≤ 101 := nI_ge (a := 101) (by omega) (by omega)
      have e4 : nI w - 1 = nI (w - 1) := pk_sub (b := 1) (by omega)
      refine ⟨?_, Or.inr ⟨e0, ?_⟩⟩
      · unfold stepD
        rw [if_neg e2, if_neg e3, e4]
        exact Or.inr (Or.inr ⟨w - 1, by omega, by omega, rfl⟩)
      · unfold stepD
        rw [if_neg e2, if_neg e3, if_neg e2]
theorem X_dayL (a : Nat) (h : Hp) (hv : ∀ k, k < 81 → okv (h.1 (a + 1) k)) : f_X2_passDay_l24 a (fun (w10 : Int32) (h11 : Hp) => some ((0 : Int32), h11)) FU 0 h = some (0, dayH h (a + 1) 81) := by
  have key := loop_FU (fun f (q : Int32 × Hp) => f_X2_passDay_l24 a (fun (w10 : Int32) (h11 : Hp) => some ((0 : Int32), h11)) f q.1 q.2) (fun k => (nI k, dayH h (a + 1) k)) 81 (some (0, dayH h (a + 1) 81)) (by omega)
    (fun f k hk => by
      show f_X2_passDay_l24 a _ (f + 1) (nI k) (dayH h (a + 1) k) = f_X2_passDay_l24 a _ f (nI (k + 1)) (dayH h (a + 1) (k + 1))
      rw [f_X2_passDay_l24, if_neg (g81 hk), ald_ok _ _ hk (by omega), dayH_k]
      simp only [obs]
      obtain ⟨-, q⟩ := okv_step (hv k hk)
      rcases q with ⟨q1, q2⟩ | ⟨q1, q2⟩
      · rw [if_pos q1, nI_succ', dayH_same h (a + 1) k q2]
      · rw [if_neg q1, opt_ite]
        simp only [obs]
        rw [← q2, ast_ok _ _ _ hk (by omega)]
        simp only [obs]
        rw [dayH_s, nI_succ'])
    (fun f => by
      show f_X2_passDay_l24 a _ (f + 1) (nI 81) (dayH h (a + 1) 81) = _
      rw [f_X2_passDay_l24, if_pos e81])
  dsimp only at key
  rw [dayH_0] at key
  exact key
theorem M_dayL (h : Hp) : f_X6_endDay_l28 (fun (w12 : Int32) (h13 : Hp) => some ((0 : Int32), h13)) FU 0 h = some (0, dayH h 2 81) := by
  have key := loop_FU (fun f (q : Int32 × Hp) => f_X6_endDay_l28 (fun (w12 : Int32) (h13 : Hp) => some ((0 : Int32), h13)) f q.1 q.2) (fun k => (nI k, dayH h 2 k)) 81 (some (0, dayH h 2 81)) (by omega)
    (fun f k hk => by
      show f_X6_endDay_l28 _ (f + 1) (nI k) (dayH h 2 k) = f_X6_endDay_l28 _ f (nI (k + 1)) (dayH h 2 (k + 1))
      rw [f_X6_endDay_l28, if_neg (g81 hk), ald_ok _ _ (by omega) (by omega), dayH_k]
      simp only [obs]
      have e : (if h.1 2 k = 101 then some 0 else if h.1 2 k ≤ 101 then some (h.1 2 k) else some (h.1 2 k - 1)) = some (stepD (h.1 2 k)) := by
        unfold stepD
        split
        · rfl
        · split <;> rfl
      rw [e]
      simp only [obs]
      rw [ast_ok _ _ _ (by omega) (by omega)]
      simp only [obs]
      rw [dayH_s, nI_succ'])
    (fun f => by
      show f_X6_endDay_l28 _ (f + 1) (nI 81) (dayH h 2 81) = _
      rw [f_X6_endDay_l28, if_pos e81])
  dsimp only at key
  rw [dayH_0] at key
  exact key
theorem day_act {hx hm : Hp} {t : Nat} (h : TrS hx hm t) : ∃ r hx' hm', f_X2_passDay 12 hx = some (r, hx') ∧ f_X6_endDay hm = some (r, hm') ∧ TrS hx' hm' t ∧ FX hx hx' ∧ FM hm hm' ∧ hx'.1 12 4 = hx.1 12 4 ∧ (r = 0 ∨ r = 7) := by
  obtain ⟨h1, h2, ⟨i, d, e1, e2, e3, e4, e5, e6⟩, h4, h5⟩ := h.1
  by_cases hd : d = 99
  · subst hd
    refine ⟨7, hx, hm, ?_, ?_, h, FX.rf _, FM.rf _, rfl, Or.inr rfl⟩
    · rw [f_X2_passDay, e4, if_neg (show ¬ nI 99 < (99 : Int32) by decide)]
    · rw [f_X6_endDay, show (88 : Int32) = nI 88 from rfl, ald_ok _ _ (by omega) (by omega), e3]
      simp only [obs]
      rw [if_pos (show nI 99 = (99 : Int32) from rfl)]
  · have hd2 : d < 99 := by omega
    have r13 : ∀ v, (ip hx 12 3 v).1 13 = hx.1 13 := fun v => ip_row _ _ _ _ (by omega)
    refine ⟨0, dayH (ip hx 12 3 (nI (d + 1))) 13 81, dayH (ip hm 2 88 (nI (d + 1))) 2 81, ?_, ?_, ⟨⟨fun k hk => ?_, ⟨fun a b ha hb => ?_, fun a ha => ?_, fun k hk => ?_⟩, ⟨i, d + 1, ?_, e2, ?_, ?_, by omega, fun k hk => ?_⟩, h4, fun k hk => ?_⟩, ?_⟩, ?_, ?_, ?_, Or.inl rfl⟩
    · rw [f_X2_passDay, e4, if_pos (show nI d < (99 : Int32) from nI_lt (b := 99) hd2 (by omega))]
      simp only [obs]
      rw [nI_succ', X_dayL 12 _ (fun k hk => by show okv ((ip hx 12 3 _).1 13 k); rw [r13]; exact h2.2.2 k hk)]
    · rw [f_X6_endDay, show (88 : Int32) = nI 88 from rfl, ald_ok _ _ (by omega) (by omega), e3]
      simp only [obs]
      rw [if_neg (show ¬ nI d = (99 : Int32) from fun q => hd ((nI_eq (b := 99) (by omega) (by omega)).mp q)), nI_succ', ast_ok _ _ _ (by omega) (by omega)]
      simp only [obs]
      rw [M_dayL]
    · rw [dayH_in _ _ _ hk, dayH_in _ _ _ hk, r13, ip_n _ _ _ _ (Or.inr (by omega)), h1 k hk]
    · rw [dayH_in _ _ _ (by omega), dayH_in _ _ _ (by omega), r13, h2.1 a b ha hb]
    · rw [dayH_in _ _ _ (by omega), r13, h2.2.1 a ha]
      decide
    · rw [dayH_in _ _ _ hk, r13]
      exact (okv_step (h2.2.2 k hk)).1
    · rw [dayH_out _ _ _ (by omega), ip_n _ _ _ _ (Or.inr (by omega))]; exact e1
    · rw [dayH_out _ _ _ (by omega), ip_s]
    · rw [dayH_row _ _ _ (by omega), ip_s]
    · rw [dayH_row _ _ _ (by omega), ip_row _ _ _ _ (by omega)]; exact e6 k hk
    · rw [dayH_out _ _ _ (by omega), ip_n _ _ _ _ (Or.inr (by omega)), dayH_row _ _ _ (by omega), ip_row _ _ _ _ (by omega)]; exact h5 k hk
    · rw [dayH_row _ _ _ (by omega), ip_row _ _ _ _ (by omega)]; exact h.2
    · exact fun r h12 h13 _ _ => by rw [dayH_row _ _ _ h13, ip_row _ _ _ _ h12]
    · exact fun r h2 => by rw [dayH_row _ _ _ h2, ip_row _ _ _ _ h2]
    · rw [dayH_row _ _ _ (by omega), ip_n _ _ _ _ (Or.inr (by omega))]
theorem walk_act {hx hm : Hp} {t : Nat} (h : TrS hx hm t) {k p : Nat} (hk : k < 6) (hp : p < 9) : ∃ r hx' hm', f_X2_walk 12 (nI k) (nI p) hx = some (r, hx') ∧ f_X6_walk (nI k) (nI p) hm = some (r, hm') ∧ TrS hx' hm' t ∧ FX hx hx' ∧ FM hm hm' ∧
    ((r = 0 ∧ ∃ f : Nat, f < 9 ∧ hm.1 2 (81 + k) = nI f ∧ hx'.1 12 4 = if hm'.1 2 (9 * f + p) = 9 ∧ hx.1 12 4 = -6 then nI (nam f p) else hx.1 12 4) ∨ ((r = 1 ∨ r = 2 ∨ r = 3 ∨ r = 4 ∨ r = 5) ∧ hx' = hx)) := by
  obtain ⟨q1, q2⟩ := h.there hk
  obtain ⟨h1, h2, ⟨i, d, e1, e2, e3, e4, e5, e6⟩, h4, h5⟩ := id h.1
  rcases (h5 k hk).symm with ⟨ht, f2⟩ | ⟨ht, f, hf, f1, f2⟩
  · exact ⟨1, hx, hm, by rw [f_X2_walk, q1, ht]; rfl, by rw [f_X6_walk, q2, ht]; rfl, h, FX.rf _, FM.rf _, Or.inr ⟨by simp, rfl⟩⟩
  have hX0 : f_X2_isThere 12 (nI k) hx = some 1 := by rw [q1, ht]; rfl
  have hM0 : f_X6_isThere (nI k) hm = some 1 := by rw [q2, ht]; rfl
  have hpl : f_X2_placeOf 12 (nI k) hx = some (nI f) := by rw [X_placeOf 12 hx hk]; exact congrArg some f2
  by_cases hfp : f = p
  · subst hfp
    refine ⟨2, hx, hm, ?_, ?_, h, FX.rf _, FM.rf _, Or.inr ⟨by simp, rfl⟩⟩
    · rw [f_X2_walk, hX0]
      simp only [obs, if_neg one_ne]
      rw [hpl]
      simp only [obs, if_true]
    · rw [f_X6_walk, hM0]
      simp only [obs, if_neg one_ne]
      rw [ix81, ald_ok _ _ (by omega) (by omega), f1]
      simp only [obs, if_true]
  have hfp2 : ¬ nI f = nI p := fun q => hfp ((nI_eq (by omega) (by omega)).mp q)
  have hv := h2.2.2 (9 * f + p) (by omega)
  have hb := M_bar hm hf hp
  rw [← h1 _ (by omega)] at hb
  have hX := X_road 12 hx hf hp h2.2.1
  have hmv : hm.1 2 (9 * f + p) = hx.1 13 (9 * f + p) := (h1 _ (by omega)).symm
  rcases okv_bar hv with ⟨g1, g2⟩ | ⟨⟨w, hw, g1⟩, g2, g3, g4⟩ | ⟨-, g2, g3, g4⟩
  · rw [g2] at hb
    refine ⟨3, hx, hm, ?_, ?_, h, FX.rf _, FM.rf _, Or.inr ⟨by simp, rfl⟩⟩
    · rw [f_X2_walk, hX0]
      simp only [obs, if_neg one_ne]
      rw [hpl]
      simp only [obs]
      rw [if_neg hfp2, hX]
      simp only [obs]
      rw [if_pos (show hx.1 (12 + 1) (9 * f + p) = -6 from g1)]
    · rw [f_X6_walk, hM0]
      simp only [obs, if_neg one_ne]
      rw [ix81, ald_ok _ _ (by omega) (by omega), f1]
      simp only [obs]
      rw [if_neg hfp2, hb]
      simp only [obs]
      rw [ix9', ald_ok _ _ (by omega) (by omega)]
      simp only [obs, jn_eq]
      rw [if_pos (by decide), if_neg (by decide)]
  · rw [g4] at hb
    by_cases hw9 : w = 9
    · subst hw9
      refine ⟨5, hx, hm, ?_, ?_, h, FX.rf _, FM.rf _, Or.inr ⟨by simp, rfl⟩⟩
      · rw [f_X2_walk, hX0]
        simp only [obs, if_neg one_ne]
        rw [hpl]
        simp only [obs]
        rw [if_neg hfp2, hX]
        simp only [obs]
        rw [if_neg (show ¬ hx.1 (12 + 1) (9 * f + p) = -6 from g2), if_pos (show hx.1 (12 + 1) (9 * f + p) < 100 from g3), show hx.1 (12 + 1) (9 * f + p) = nI 9 from g1, if_neg (show ¬ nI 9 < (9 : Int32) by decide)]
      · rw [f_X6_walk, hM0]
        simp only [obs, if_neg one_ne]
        rw [ix81, ald_ok _ _ (by omega) (by omega), f1]
        simp only [obs]
        rw [if_neg hfp2, hb]
        simp only [obs]
        rw [ix9', ald_ok _ _ (by omega) (by omega), hmv, g1]
        simp only [obs, jn_eq]
        rw [if_neg (by decide), if_pos (by decide), if_pos (by decide)]
    · have hw8 : w < 9 := by omega
      have hirn : hx.1 15 k = b2 (i.testBit k) := e6 k hk
      obtain ⟨v, hve, hv9⟩ : ∃ v : Nat, v = min 9 (w + 1 + (i.testBit k).toNat) ∧ v ≤ 9 := ⟨_, rfl, by omega⟩
      have x1 : imin (9 : Int32) ((nI w + (1 : Int32)) + b2 (i.testBit k)) = nI v := by
        rw [nI_succ', show b2 (i.testBit k) = nI (i.testBit k).toNat by cases i.testBit k <;> rfl, nI_add, hve]
        unfold imin
        by_cases q : w + 1 + (i.testBit k).toNat < 9
        · rw [if_pos (show nI (w + 1 + (i.testBit k).toNat) < (9 : Int32) from nI_lt (b := 9) q (by omega)), Nat.min_eq_right (by omega)]
        · rw [if_neg (show ¬ nI (w + 1 + (i.testBit k).toNat) < (9 : Int32) from nI_nlt (b := 9) (by omega) (by have := Bool.toNat_le (i.testBit k); omega)), Nat.min_eq_left (by omega)]
          rfl
      have x2 : (if nI w + (if b2 (i.testBit k) = 0 then (1 : Int32) else 2) ≤ (9 : Int32) then nI w + (if b2 (i.testBit k) = 0 then (1 : Int32) else 2) else 9) = nI v := by
        have e : (if b2 (i.testBit k) = 0 then (1 : Int32) else 2) = nI (1 + (i.testBit k).toNat) := by cases i.testBit k <;> rfl
        have hbt := Bool.toNat_le (i.testBit k)
        rw [e, nI_add, hve]
        by_cases q : w + (1 + (i.testBit k).toNat) ≤ 9
        · rw [if_pos (show nI (w + (1 + (i.testBit k).toNat)) ≤ (9 : Int32) from nI_le (b := 9) q (by omega)), Nat.min_eq_right (by omega), Nat.add_assoc]
        · rw [if_neg (show ¬ nI (w + (1 + (i.testBit k).toNat)) ≤ (9 : Int32) from nI_ge (a := 9) (by omega) (by omega)), Nat.min_eq_left (by omega)]
          rfl
      have hov : okv (nI v) := Or.inr (Or.inl ⟨v, hv9, rfl⟩)
      have hT := h.road hf hp hfp hov
      have hT2 : TrS (ip (pr 13 f p (nI v) hx) 14 k (nI p)) (ip (pr 2 f p (nI v) hm) 2 (81 + k) (nI p)) t := by
        obtain ⟨⟨u1, u2, ⟨i', d', v1, v2, v3, v4, v5, v6⟩, u4, u5⟩, u6⟩ := hT
        refine ⟨⟨fun j hj => ?_, ?_, ⟨i', d', ?_, v2, ?_, ?_, v5, fun j hj => ?_⟩, u4, fun j hj => ?_⟩, ?_⟩
        · rw [ip_row _ _ _ _ (by omega), ip_n _ _ _ _ (Or.inr (by omega))]; exact u1 j hj
        · rw [ip_row _ _ _ _ (by omega)]; exact u2
        · rw [ip_n _ _ _ _ (Or.inr (by omega))]; exact v1
        · rw [ip_n _ _ _ _ (Or.inr (by omega))]; exact v3
        · rw [ip_row _ _ _ _ (by omega)]; exact v4
        · rw [ip_row _ _ _ _ (by omega)]; exact v6 j hj
        · by_cases ej : j = k
          · subst ej
            exact Or.inl ⟨ht, p, hp, ip_s _ _ _ _, ip_s _ _ _ _⟩
          · rw [ip_n _ _ _ _ (Or.inr (by omega)), ip_n _ _ _ _ (Or.inr ej)]; exact u5 j hj
        · rw [ip_row _ _ _ _ (by omega)]; exact u6
      have hfw : ∀ r', (ip (pr 13 f p (nI v) hx) 14 k (nI p)).1 12 r' = hx.1 12 r' := fun r' => by rw [ip_row _ _ _ _ (by omega), pr_row _ _ _ _ _ (by omega)]
      have hmM : f_X6_walk (nI k) (nI p) hm = some (0, ip (pr 2 f p (nI v) hm) 2 (81 + k) (nI p)) := by
        rw [f_X6_walk, hM0]
        simp only [obs, if_neg one_ne]
        rw [ix81, ald_ok _ _ (by omega) (by omega), f1]
        simp only [obs]
        rw [if_neg hfp2, hb]
        simp only [obs]
        rw [ix9', ald_ok _ _ (by omega) (by omega), hmv, g1]
        simp only [obs, jn_eq]
        rw [if_neg (by decide), if_neg (show ¬ nI w = (9 : Int32) from fun q => hw9 ((nI_eq (b := 9) (by omega) (by omega)).mp q)), show (87 : Int32) = nI 87 from rfl, ald_ok _ _ (by omega) (by omega), e1]
        simp only [obs]
        rw [has_ok (by omega) (by omega)]
        simp only [obs, opt_ite]
        rw [x2, M_lay hm hf hp]
        simp only [obs]
        rw [ast_ok _ _ _ (by omega) (by omega)]
        rfl
      have hnew : (ip (pr 2 f p (nI v) hm) 2 (81 + k) (nI p)).1 2 (9 * f + p) = nI v := by
        rw [ip_n _ _ _ _ (Or.inr (by omega)), pr_self]
        unfold setR
        rw [if_pos (Or.inl rfl)]
      have hXw : f_X2_walk 12 (nI k) (nI p) hx = (if nI v = (9 : Int32) then (if hx.1 12 4 = (-6 : Int32) then some ((0 : Int32), ip (ip (pr 13 f p (nI v) hx) 14 k (nI p)) 12 4 (nI (nam f p))) else some ((0 : Int32), ip (pr 13 f p (nI v) hx) 14 k (nI p))) else some ((0 : Int32), ip (pr 13 f p (nI v) hx) 14 k (nI p))) := by
        rw [f_X2_walk, hX0]
        simp only [obs, if_neg one_ne]
        rw [hpl]
        simp only [obs]
        rw [if_neg hfp2, hX]
        simp only [obs]
        rw [if_neg (show ¬ hx.1 (12 + 1) (9 * f + p) = -6 from g2), if_pos (show hx.1 (12 + 1) (9 * f + p) < 100 from g3), show hx.1 (12 + 1) (9 * f + p) = nI w from g1, if_pos (show nI w < (9 : Int32) from nI_lt (b := 9) hw8 (by omega)), X_ironOf 12 hx hk]
        simp only [obs]
        rw [show hx.1 (12 + 3) k = b2 (i.testBit k) from hirn, x1, X_putRoad 12 hx hf hp hfp]
        simp only [obs]
        rw [put_ok _ _ _ hk (by omega)]
        simp only [obs]
        rw [show (ip (pr (12 + 1) f p (nI v) hx) (12 + 2) k (nI p)).1 12 4 = hx.1 12 4 from hfw 4, name_ok hf hp]
        rfl
      rw [hXw]
      by_cases c1 : nI v = 9
      · by_cases c2 : hx.1 12 4 = -6
        · rw [if_pos c1, if_pos c2]
          refine ⟨0, _, _, rfl, hmM, ?_, ?_, fun r hr => ?_, Or.inl ⟨rfl, f, hf, f1, ?_⟩⟩
          · refine ⟨?_, hT2.2⟩
            rw [ip_row _ 12 _ _ (show 13 ≠ 12 by omega), ip_row _ 12 _ _ (show 14 ≠ 12 by omega), ip_row _ 12 _ _ (show 15 ≠ 12 by omega), ip_n _ 12 _ _ (Or.inr (by omega))]
            exact hT2.1
          · exact fun r r12 r13 r14 r15 => by rw [ip_row _ _ _ _ r12, ip_row _ _ _ _ r14, pr_row _ _ _ _ _ r13]
          · rw [ip_row _ _ _ _ hr, pr_row _ _ _ _ _ hr]
          · rw [hnew, if_pos ⟨c1, c2⟩, ip_s]
        · rw [if_pos c1, if_neg c2]
          refine ⟨0, _, _, rfl, hmM, hT2, ?_, fun r hr => ?_, Or.inl ⟨rfl, f, hf, f1, ?_⟩⟩
          · exact fun r r12 r13 r14 r15 => by rw [ip_row _ _ _ _ r14, pr_row _ _ _ _ _ r13]
          · rw [ip_row _ _ _ _ hr, pr_row _ _ _ _ _ hr]
          · rw [if_neg (fun q => c2 q.2)]; exact hfw 4
      · rw [if_neg c1]
        refine ⟨0, _, _, rfl, hmM, hT2, ?_, fun r hr => ?_, Or.inl ⟨rfl, f, hf, f1, ?_⟩⟩
        · exact fun r r12 r13 r14 r15 => by rw [ip_row _ _ _ _ r14, pr_row _ _ _ _ _ r13]
        · rw [ip_row _ _ _ _ hr, pr_row _ _ _ _ _ hr]
        · rw [hnew, if_neg (fun q => c1 q.1)]; exact hfw 4
  · rw [g4] at hb
    refine ⟨4, hx, hm, ?_, ?_, h, FX.rf _, FM.rf _, Or.inr ⟨by simp, rfl⟩⟩
    · rw [f_X2_walk, hX0]
      simp only [obs, if_neg one_ne]
      rw [hpl]
      simp only [obs]
      rw [if_neg hfp2, hX]
      simp only [obs]
      rw [if_neg (show ¬ hx.1 (12 + 1) (9 * f + p) = -6 from g2), if_neg (show ¬ hx.1 (12 + 1) (9 * f + p) < 100 from g3)]
    · rw [f_X6_walk, hM0]
      simp only [obs, if_neg one_ne]
      rw [ix81, ald_ok _ _ (by omega) (by omega), f1]
      simp only [obs]
      rw [if_neg hfp2, hb]
      simp only [obs]
      rw [ix9', ald_ok _ _ (by omega) (by omega)]
      simp only [obs, jn_eq]
      rw [if_pos (by decide), if_neg (by decide)]
