/-! OPS: walker, told, the start. -/
def clr (i k : Nat) : Nat := if i.testBit k then i - 2 ^ k else i
theorem clr_ok : ∀ i, i < 64 → ∀ k, k < 6 → nI i &&& (((1 : Int32) <<< (nI k &&& 31)) ^^^ (-1 : Int32)) = nI (clr i k) := by decide +kernel
theorem clr_lt : ∀ i, i < 64 → ∀ k, k < 6 → clr i k < 64 := by decide +kernel
theorem clr_bit : ∀ i, i < 64 → ∀ k, k < 6 → ∀ j, j < 6 → (clr i k).testBit j = (i.testBit j && !decide (j = k)) := by decide +kernel
theorem or_lt64 {a b : Nat} (ha : a < 64) (hb : b < 64) : a ||| b < 64 := Nat.or_lt_two_pow (n := 6) ha hb
theorem pw_lt64 {k : Nat} (hk : k < 6) : 2 ^ k < 64 := by
  have : 2 ^ k < 2 ^ 6 := Nat.pow_lt_pow_right (by omega) hk
  exact this
theorem ShR_walker {R P I B P' I' B' : Nat → Int32} {dx : Int32} {t k p i' : Nat} {z : Bool} (h : ShR R P I dx B t) (hk : k < 6) (hp : p < 9) (hP1 : P' k = nI p) (hP2 : ∀ j, j ≠ k → P' j = P j) (hI1 : I' k = b2 z) (hI2 : ∀ j, j ≠ k → I' j = I j) (hB1 : B' (81 + k) = nI p) (hB2 : B' 87 = nI i') (hi : i' < 64) (hB3 : ∀ j, j ≠ 81 + k → j ≠ 87 → B' j = B j) (hbit : ∀ j i, j < 6 → B 87 = nI i → i < 64 → i'.testBit j = if j = k then z else i.testBit j) : ShR R P' I' dx B' (t ||| 2 ^ k) := by
  obtain ⟨h1, h2, ⟨i, d, e1, e2, e3, e4, e5, e6⟩, h4, h5⟩ := h
  refine ⟨fun j hj => ?_, h2, ⟨i', d, hB2, hi, ?_, e4, e5, fun j hj => ?_⟩, or_lt64 h4 (pw_lt64 hk), fun j hj => ?_⟩
  · rw [hB3 j (by omega) (by omega)]; exact h1 j hj
  · rw [hB3 88 (by omega) (by omega)]; exact e3
  · rw [hbit j i hj e1 e2]
    by_cases e : j = k
    · subst e; rw [if_pos rfl]; exact hI1
    · rw [if_neg e, hI2 j e]; exact e6 j hj
  · rw [Nat.testBit_or, Nat.testBit_two_pow]
    by_cases e : j = k
    · subst e
      exact Or.inl ⟨by simp, p, hp, hB1, hP1⟩
    · have hne : decide (k = j) = false := by simp; omega
      rw [hne, Bool.or_false, hB3 (81 + j) (by omega) (by omega), hP2 j e]
      exact h5 j hj
theorem upd_s (f : Nat → Int32) (k : Nat) (x : Int32) : upd f k x k = x := by unfold upd; simp
theorem upd_n (f : Nat → Int32) (k : Nat) (x : Int32) {j : Nat} (h : j ≠ k) : upd f k x j = f j := by unfold upd; simp [h]
theorem X_putWalker (a : Nat) (h : Hp) {k p : Nat} (hk : k < 6) (z : Bool) : f_X2_putWalker a (nI k) (nI p) (b2 z) h = some (ip (ip h (a + 2) k (nI p)) (a + 3) k (b2 z)) := by
  rw [f_X2_putWalker, put_ok _ _ _ hk (by omega)]
  simp only [obs]
  cases z
  · rw [if_pos b2_f, put_ok _ _ _ hk (by omega)]; rfl
  · rw [if_neg (by decide), put_ok _ _ _ hk (by omega)]; rfl
theorem r_walker : op_walker Rl := by
  intro hx hm x1 x2 x3 hr hz
  obtain ⟨⟨t, ht, hS⟩, hG, ⟨n', p1, p2, p3, p4⟩, i1, i2⟩ := id hr
  rcases ix_cases x1 6 (by omega) with q1 | ⟨k, hk, rfl⟩
  · exact ⟨-1, hx, hm, by rw [f_X5_walker, isWalker_no q1]; rfl, by rw [f_X6_walker, show f_X6_in x1 (0 : Int32) (5 : Int32) = some 0 from in0_no (n := 5) (by omega) q1]; rfl, hr⟩
  have hin : f_X6_in (nI k) (0 : Int32) (5 : Int32) = some 1 := in_ok (a := 0) (b := 5) (by omega) (by omega) (by omega)
  rcases ix_cases x2 9 (by omega) with q2 | ⟨p, hp, rfl⟩
  · exact ⟨-1, hx, hm, by rw [f_X5_walker, isWalker_ok hk]; simp only [obs, if_neg one_ne]; rw [isPlace_no q2]; rfl, by rw [f_X6_walker, hin]; simp only [obs, if_neg one_ne]; rw [mPlace_no q2]; rfl, hr⟩
  obtain ⟨z, rfl⟩ : ∃ z : Bool, x3 = b2 z := by
    rcases hz with rfl | rfl
    · exact ⟨false, rfl⟩
    · exact ⟨true, rfl⟩
  obtain ⟨-, -, ⟨i, d, e1, e2, e3, e4, e5, e6⟩, h4, -⟩ := id hS
  obtain ⟨i', hi'⟩ : ∃ i', i' = clr i k ||| (if z then 2 ^ k else 0) := ⟨_, rfl⟩
  have hi64 : i' < 64 := by
    rw [hi']
    refine or_lt64 (clr_lt i e2 k hk) ?_
    cases z
    · simp
    · simpa using pw_lt64 hk
  obtain ⟨hx', hhx⟩ : ∃ hx', hx' = ip (ip hx 3 k (nI p)) 4 k (b2 z) := ⟨_, rfl⟩
  obtain ⟨hm', hhm⟩ : ∃ hm', hm' = ip (ip (ip (ip hm 0 2 (nI (t ||| 2 ^ k))) 1 (81 + k) (nI p)) 1 87 (nI (clr i k))) 1 87 (nI i') := ⟨_, rfl⟩
  have S2 : ShR (hx'.1 2) (hx'.1 3) (hx'.1 4) (hx'.1 1 3) (hm'.1 1) (t ||| 2 ^ k) := by
    subst hhx; subst hhm
    rw [ip_row _ 4 _ _ (show 2 ≠ 4 by omega), ip_row _ 3 _ _ (show 2 ≠ 3 by omega), ip_row _ 4 _ _ (show 3 ≠ 4 by omega), ip_row _ 4 _ _ (show 1 ≠ 4 by omega), ip_row _ 3 _ _ (show 1 ≠ 3 by omega), ip_self _ 4, ip_row _ 3 _ _ (show 4 ≠ 3 by omega), ip_self _ 3, ip_self, ip_self, ip_self, ip_row _ 0 _ _ (show 1 ≠ 0 by omega)]
    refine ShR_walker (z := z) (p := p) (i' := i') hS hk hp (upd_s _ _ _) (fun j hj => upd_n _ _ _ hj) (upd_s _ _ _) (fun j hj => upd_n _ _ _ hj) ?_ (upd_s _ _ _) hi64 ?_ ?_
    · rw [upd_n _ _ _ (by omega), upd_n _ _ _ (by omega), upd_s]
    · intro j hj1 hj2
      rw [upd_n _ _ _ hj2, upd_n _ _ _ hj2, upd_n _ _ _ hj1]
    · intro j i0 hj hb hi0
      have : i0 = i := (nI_eq (by omega) (by omega)).mp (hb.symm.trans e1)
      subst this
      rw [hi', Nat.testBit_or, clr_bit i0 e2 k hk j hj]
      by_cases ejk : j = k
      · subst ejk
        cases z <;> simp
      · cases z <;> simp [ejk, Nat.testBit_two_pow, Ne.symm ejk]
  refine ⟨nI (pcn (t ||| 2 ^ k) 9), hx', hm', ?_, ?_, ?_⟩
  · rw [f_X5_walker, isWalker_ok hk]
    simp only [obs, if_neg one_ne]
    rw [isPlace_ok hp]
    simp only [obs, if_neg one_ne]
    rw [X_putWalker 1 hx hk z, show ip (ip hx (1 + 2) k (nI p)) (1 + 3) k (b2 z) = hx' from hhx.symm]
    simp only [obs]
    rw [X_walkersThere]
    simp only [obs]
    rw [msk_congr (g := (t ||| 2 ^ k).testBit) (fun j hj => S2.there hj), msk_self S2.2.2.2.1, bitCount_ok _ (Nat.lt_trans S2.2.2.2.1 (by omega))]
    rfl
  · rw [f_X6_walker, hin]
    simp only [obs, if_neg one_ne]
    rw [mPlace_ok hp]
    simp only [obs, if_neg one_ne]
    rw [ht, sh1 k (by omega), nI_or, ix81, ast_ok _ _ _ (by omega) (by omega)]
    simp only [obs]
    rw [show (87 : Int32) = nI 87 from rfl, ald_ok _ _ (by omega) (by omega), ip_n _ _ _ _ (Or.inr (by omega)), ip_row _ 0 _ _ (by omega), e1]
    simp only [obs]
    rw [← sh1 k (by omega), clr_ok i e2 k hk, ast_ok _ _ _ (by omega) (by omega)]
    simp only [obs]
    rw [ald_ok _ _ (by omega) (by omega), ip_s, sh1 k (by omega)]
    simp only [obs]
    rw [opt_ite]
    simp only [obs]
    rw [show (if b2 z = 0 then (0 : Int32) else nI (2 ^ k)) = nI (if z then 2 ^ k else 0) by cases z <;> rfl, nI_or, ← hi', ast_ok _ _ _ (by omega) (by omega)]
    simp only [obs]
    rw [← hhm]
    have e9 : hm'.1 0 2 = nI (t ||| 2 ^ k) := by
      subst hhm
      rw [ip_row _ 1 _ _ (show 0 ≠ 1 by omega), ip_row _ 1 _ _ (show 0 ≠ 1 by omega), ip_row _ 1 _ _ (show 0 ≠ 1 by omega), ip_s]
    rw [e9, bits_ok (Nat.lt_trans S2.2.2.2.1 (by omega))]
    rfl
  · have f1 : ∀ r, r ≠ 3 → r ≠ 4 → hx'.1 r = hx.1 r := fun r h3 h4 => by rw [hhx, ip_row _ _ _ _ h4, ip_row _ _ _ _ h3]
    have f2 : ∀ r, r ≠ 0 → r ≠ 1 → hm'.1 r = hm.1 r := fun r h3 h4 => by rw [hhm, ip_row _ _ _ _ h4, ip_row _ _ _ _ h4, ip_row _ _ _ _ h4, ip_row _ _ _ _ h3]
    have f3 : ∀ j, j ≠ 2 → hm'.1 0 j = hm.1 0 j := fun j hj => by rw [hhm, ip_row _ 1 _ _ (show 0 ≠ 1 by omega), ip_row _ 1 _ _ (show 0 ≠ 1 by omega), ip_row _ 1 _ _ (show 0 ≠ 1 by omega), ip_n _ _ _ _ (Or.inr hj)]
    refine hr.setX ⟨t ||| 2 ^ k, ?_, S2⟩ ?_ ⟨n', p1, ?_, ?_, ?_⟩ (fun r h1 h2 => f1 r (by omega) (by omega)) (f2 12 (by omega) (by omega)) (f2 13 (by omega) (by omega))
    · rw [hhm, ip_row _ 1 _ _ (show 0 ≠ 1 by omega), ip_row _ 1 _ _ (show 0 ≠ 1 by omega), ip_row _ 1 _ _ (show 0 ≠ 1 by omega), ip_s]
    · unfold SiM
      rw [f1 6 (by omega) (by omega), f1 7 (by omega) (by omega), f1 8 (by omega) (by omega), f1 5 (by omega) (by omega), f2 3 (by omega) (by omega), f3 3 (by omega)]
      exact hG
    · rw [f1 9 (by omega) (by omega)]; exact p2
    · rw [f3 5 (by omega)]; exact p3
    · rw [f1 10 (by omega) (by omega), f2 4 (by omega) (by omega)]; exact p4
/-- the start -/
theorem rd0_at {j : Nat} (hj : j < 81) : rd0 j = -6 := by
  unfold rd0 fillH
  simp [hj]
theorem pl0_at {j : Nat} (hj : j < 6) : pl0 j = -1 := by
  unfold pl0 fillH
  simp [hj]
theorem hM0_at {j : Nat} (hj : j < 81) : hM0.1 1 j = -6 := by
  unfold hM0 fillH
  simp [hj]
theorem hM0_out {r j : Nat} (hj : r ≠ 1 ∨ 81 ≤ j) : hM0.1 r j = 0 := by
  unfold hM0 fillH
  show (if r = 1 ∧ j < 81 then (-6 : Int32) else 0) = 0
  rw [if_neg (by omega)]
theorem r_init : Rl hX0 hM0 := by
  have hS : ShR rd0 pl0 (fun _ => 0) 0 (hM0.1 1) 0 := by
    refine ⟨fun k hk => by rw [rd0_at hk, hM0_at hk], ⟨fun i j hi hj => by rw [rd0_at (by omega), rd0_at (by omega)], fun i hi => rd0_at (by omega), fun k hk => Or.inl (rd0_at hk)⟩, ⟨0, 0, hM0_out (Or.inr (by omega)), by omega, hM0_out (Or.inr (by omega)), rfl, by omega, fun k hk => by simp [b2]⟩, by omega, fun k hk => Or.inr ⟨by simp, pl0_at hk⟩⟩
  refine ⟨⟨0, hM0_out (Or.inl (by omega)), hS⟩, ⟨?_, 0, by omega, rfl, fun i hi => absurd hi (by omega)⟩, ⟨0, by omega, rfl, hM0_out (Or.inl (by omega)), fun i hi => absurd hi (by omega)⟩, ⟨?_, Or.inl rfl⟩, ⟨?_, Or.inl rfl⟩⟩
  · rw [hM0_out (Or.inl (by omega))]; rfl
  · rw [hM0_out (Or.inl (by omega))]; rfl
  · rw [hM0_out (Or.inl (by omega))]; rfl
