/-! MENDED in the class. -/
theorem imin_nI {a b : Nat} (ha : a < 2 ^ 31) (hb : b < 2 ^ 31) : imin (nI a) (nI b) = nI (min a b) := by
  unfold imin
  by_cases h : b < a
  · rw [if_pos (nI_lt h ha), show min a b = b by omega]
  · rw [if_neg (nI_nlt (by omega) hb), show min a b = a by omega]
theorem X_l18_all {r n : Nat} (hr : r < 2 ^ 31) (hn : n ≤ 8) (ha : ∀ k, k < n → dg r k ≠ 0) : f_X5_hasDigits_l18 (nI r) (nI n) (fun (w4 : Int32) => some (1 : Int32)) FU 0 = some 1 := by
  refine loop_FU (fun f (q : Int32) => f_X5_hasDigits_l18 (nI r) (nI n) (fun (w4 : Int32) => some (1 : Int32)) f q) (fun k => nI k) n _ (by omega) (fun f k hk => ?_) (fun f => ?_)
  · show f_X5_hasDigits_l18 (nI r) (nI n) (fun (w4 : Int32) => some (1 : Int32)) (f + 1) (nI k) = f_X5_hasDigits_l18 (nI r) (nI n) (fun (w4 : Int32) => some (1 : Int32)) f (nI (k + 1))
    have hd := dg_lt r k
    rw [f_X5_hasDigits_l18, if_neg (nI_ge hk (by omega)), X_digit hr (by omega), show nI (r / 10 ^ k % 10) = nI (dg r k) from rfl]
    simp only [obs]
    rw [if_neg (nzn (show dg r k < 2 ^ 31 by omega) (ha k hk)), nI_succ']
  · show f_X5_hasDigits_l18 (nI r) (nI n) (fun (w4 : Int32) => some (1 : Int32)) (f + 1) (nI n) = _
    rw [f_X5_hasDigits_l18, if_pos (nI_le (Nat.le_refl n) (by omega))]
theorem X_l18_z {r n z : Nat} (hr : r < 2 ^ 31) (hn : n ≤ 8) (hz : z < n) (h0 : dg r z = 0) (ha : ∀ k, k < z → dg r k ≠ 0) : f_X5_hasDigits_l18 (nI r) (nI n) (fun (w4 : Int32) => some (1 : Int32)) FU 0 = some 0 := by
  refine loop_FU (fun f (q : Int32) => f_X5_hasDigits_l18 (nI r) (nI n) (fun (w4 : Int32) => some (1 : Int32)) f q) (fun k => nI k) z _ (by omega) (fun f k hk => ?_) (fun f => ?_)
  · show f_X5_hasDigits_l18 (nI r) (nI n) (fun (w4 : Int32) => some (1 : Int32)) (f + 1) (nI k) = f_X5_hasDigits_l18 (nI r) (nI n) (fun (w4 : Int32) => some (1 : Int32)) f (nI (k + 1))
    have hd := dg_lt r k
    rw [f_X5_hasDigits_l18, if_neg (nI_ge (show k < n by omega) (by omega)), X_digit hr (by omega), show nI (r / 10 ^ k % 10) = nI (dg r k) from rfl]
    simp only [obs]
    rw [if_neg (nzn (show dg r k < 2 ^ 31 by omega) (ha k hk)), nI_succ']
  · show f_X5_hasDigits_l18 (nI r) (nI n) (fun (w4 : Int32) => some (1 : Int32)) (f + 1) (nI z) = _
    rw [f_X5_hasDigits_l18, if_neg (nI_ge hz (by omega)), X_digit hr (by omega), show nI (r / 10 ^ z % 10) = nI (dg r z) from rfl, h0]
    simp only [obs]
    rw [if_pos (show nI 0 = 0 from rfl)]
theorem X_has_all {r n : Nat} (hr : r < 2 ^ 31) (hn : n ≤ 8) (hlt : r < 10 ^ n) (ha : ∀ k, k < n → dg r k ≠ 0) : f_X5_hasDigits (nI r) (nI n) = some 1 := by
  have hp : 10 ^ n ≤ 10 ^ 8 := Nat.pow_le_pow_right (by omega) hn
  rw [f_X5_hasDigits, if_neg (nI_pos hr), X_pow (by omega)]
  simp only [obs]
  rw [nI_L hr, if_pos ((cmp_lt (by omega) (by omega)).mpr hlt)]
  exact X_l18_all hr hn ha
theorem X_has_no {r n : Nat} (hr : r < 2 ^ 31) (hn : n ≤ 8) (h : ¬ (r < 10 ^ n ∧ ∀ k, k < n → dg r k ≠ 0)) : f_X5_hasDigits (nI r) (nI n) = some 0 := by
  have hp : 10 ^ n ≤ 10 ^ 8 := Nat.pow_le_pow_right (by omega) hn
  rw [f_X5_hasDigits, if_neg (nI_pos hr), X_pow (by omega)]
  simp only [obs]
  rw [nI_L hr]
  by_cases hlt : r < 10 ^ n
  · rw [if_pos ((cmp_lt (by omega) (by omega)).mpr hlt)]
    have hex : ∃ k, k < n ∧ dg r k = 0 := by
      apply Classical.byContradiction
      intro hno
      exact h ⟨hlt, fun k hk h0 => hno ⟨k, hk, h0⟩⟩
    obtain ⟨z, ⟨z1, z2⟩, z3⟩ := pk_least (fun k => k < n ∧ dg r k = 0) hex
    exact X_l18_z hr hn z1 z2 (fun k hk h0 => z3 k hk ⟨by omega, h0⟩)
  · rw [if_neg (fun q => hlt ((cmp_lt (by omega) (by omega)).mp q))]
def FLd (h : Hp) (r m : Nat) : Hp := (fun a b => if (a = 35 ∨ a = 36) ∧ b < m then nI (ldN (dg r) b) else h.1 a b, h.2)
theorem FLd_s (h : Hp) (r m : Nat) : ip (ip (FLd h r m) 35 m (nI (ldN (dg r) m))) 36 m (nI (ldN (dg r) m)) = FLd h r (m + 1) := by
  refine Prod.ext ?_ rfl
  funext a b
  rw [ip_at, ip_at]
  show (if a = 36 ∧ b = m then nI (ldN (dg r) m) else if a = 35 ∧ b = m then nI (ldN (dg r) m) else if (a = 35 ∨ a = 36) ∧ b < m then nI (ldN (dg r) b) else h.1 a b) = (if (a = 35 ∨ a = 36) ∧ b < m + 1 then nI (ldN (dg r) b) else h.1 a b)
  by_cases h1 : a = 36 ∧ b = m
  · rw [if_pos h1, if_pos (by omega), h1.2]
  · rw [if_neg h1]
    by_cases h2 : a = 35 ∧ b = m
    · rw [if_pos h2, if_pos (by omega), h2.2]
    · rw [if_neg h2]
      by_cases h3 : (a = 35 ∨ a = 36) ∧ b < m
      · rw [if_pos h3, if_pos (by omega)]
      · rw [if_neg h3, if_neg (by omega)]
theorem dg_9 (r : Nat) : ∀ i, dg r i ≤ 9 := fun i => by
  have := dg_lt r i
  omega
theorem X_l13 {T : Type} {r s : Nat} (hr : r < 2 ^ 31) (hs : s < 256) (s2 : Int32) (kx : Int32 → Int32 → Option T) : f_X5_fillLoads_l13 (nI r) s2 (nI s) kx FU 0 0 = kx (nI (ldN (dg r) s)) (nI 8) := by
  refine loop_FU (fun f (q : Int32 × Int32) => f_X5_fillLoads_l13 (nI r) s2 (nI s) kx f q.1 q.2) (fun k => (nI (sN (fun i => if s.testBit i = true then dg r i else 0) k), nI k)) 8 _ (by omega) (fun f k hk => ?_) (fun f => ?_)
  · show f_X5_fillLoads_l13 (nI r) s2 (nI s) kx (f + 1) (nI (sN (fun i => if s.testBit i = true then dg r i else 0) k)) (nI k) = f_X5_fillLoads_l13 (nI r) s2 (nI s) kx f (nI (sN (fun i => if s.testBit i = true then dg r i else 0) k + (if s.testBit k = true then dg r k else 0))) (nI (k + 1))
    rw [f_X5_fillLoads_l13, if_neg (g8 hk), holds_ok (by omega) (by omega)]
    simp only [obs]
    cases hb : s.testBit k with
    | false =>
      rw [if_pos b2_f, if_neg (by decide), nI_succ', Nat.add_zero (sN _ k)]
    | true =>
      rw [if_neg (show ¬ b2 true = 0 by decide), if_pos rfl, X_digit hr (by omega), show nI (r / 10 ^ k % 10) = nI (dg r k) from rfl]
      simp only [obs]
      rw [nI_add, nI_succ']
  · show f_X5_fillLoads_l13 (nI r) s2 (nI s) kx (f + 1) _ (nI 8) = _
    rw [f_X5_fillLoads_l13, if_pos e8]
    rfl
theorem X_fillLoads {r m : Nat} (hr : r < 2 ^ 31) (hm : m ≤ 256) (h : Hp) : f_X5_fillLoads (nI r) (nI m) h = some (FLd h r m) := by
  rw [f_X5_fillLoads]
  have key := loop_FU (fun f (q : Int32 × Hp) => f_X5_fillLoads_l2 (nI r) (nI m) (fun (w11 : Int32) (h12 : Hp) => some h12) f q.1 q.2) (fun k => (nI k, FLd h r k)) m (some (FLd h r m)) (by omega) (fun f k hk => by
      show f_X5_fillLoads_l2 (nI r) (nI m) (fun (w11 : Int32) (h12 : Hp) => some h12) (f + 1) (nI k) (FLd h r k) = f_X5_fillLoads_l2 (nI r) (nI m) (fun (w11 : Int32) (h12 : Hp) => some h12) f (nI (k + 1)) (FLd h r (k + 1))
      rw [f_X5_fillLoads_l2, if_neg (nI_ge hk (by omega)), X_l13 hr (by omega), put_ok _ _ _ (show k < 256 by omega) (by omega)]
      simp only [obs]
      rw [put_ok _ _ _ (show k < 256 by omega) (by omega)]
      simp only [obs]
      rw [FLd_s, nI_succ'])
    (fun f => by
      show f_X5_fillLoads_l2 (nI r) (nI m) (fun (w11 : Int32) (h12 : Hp) => some h12) (f + 1) (nI m) (FLd h r m) = _
      rw [f_X5_fillLoads_l2, if_pos (nI_le (Nat.le_refl m) (by omega))])
  dsimp only at key
  rw [show FLd h r 0 = h by unfold FLd; simp] at key
  exact key
def GHp (h : Hp) (D : Nat → Nat) (m k q : Nat) : Hp := (fun a b => if a = 35 ∧ b < m then nI (ldN D b) else if a = 36 ∧ b < m then nI (if q ≤ b then fwN (ldN D) (k + 1) b else fwN (ldN D) k b) else h.1 a b, h.2)
theorem GHp_35 (h : Hp) (D : Nat → Nat) {m : Nat} (k q : Nat) {b : Nat} (hb : b < m) : (GHp h D m k q).1 35 b = nI (ldN D b) := by
  unfold GHp
  simp [hb]
theorem GHp_36 (h : Hp) (D : Nat → Nat) {m : Nat} (k q : Nat) {b : Nat} (hb : b < m) : (GHp h D m k q).1 36 b = nI (if q ≤ b then fwN (ldN D) (k + 1) b else fwN (ldN D) k b) := by
  unfold GHp
  simp [hb]
theorem GHp_row (h : Hp) (D : Nat → Nat) (m k q : Nat) {a : Nat} (h1 : a ≠ 35) (h2 : a ≠ 36) : (GHp h D m k q).1 a = h.1 a := by
  unfold GHp
  funext b
  simp [h1, h2]
theorem GHp_s (h : Hp) (D : Nat → Nat) (m k q : Nat) (hq : q < m) : ip (GHp h D m k (q + 1)) 36 q (nI (fwN (ldN D) (k + 1) q)) = GHp h D m k q := by
  refine Prod.ext ?_ rfl
  funext a b
  rw [ip_at]
  show (if a = 36 ∧ b = q then nI (fwN (ldN D) (k + 1) q) else if a = 35 ∧ b < m then nI (ldN D b) else if a = 36 ∧ b < m then nI (if q + 1 ≤ b then fwN (ldN D) (k + 1) b else fwN (ldN D) k b) else h.1 a b) = (if a = 35 ∧ b < m then nI (ldN D b) else if a = 36 ∧ b < m then nI (if q ≤ b then fwN (ldN D) (k + 1) b else fwN (ldN D) k b) else h.1 a b)
  by_cases h1 : a = 36 ∧ b = q
  · rw [if_pos h1, if_neg (by omega), if_pos (by omega), if_pos (by omega), h1.2]
  · rw [if_neg h1]
    by_cases h2 : a = 35 ∧ b < m
    · rw [if_pos h2, if_pos h2]
    · rw [if_neg h2, if_neg h2]
      by_cases h3 : a = 36 ∧ b < m
      · rw [if_pos h3, if_pos h3]
        by_cases h4 : q ≤ b
        · rw [if_pos h4, if_pos (by omega)]
        · rw [if_neg h4, if_neg (by omega)]
      · rw [if_neg h3, if_neg h3]
theorem GHp_n (h : Hp) (D : Nat → Nat) (m k : Nat) : GHp h D m k 1 = GHp h D m (k + 1) m := by
  refine Prod.ext ?_ rfl
  funext a b
  show (if a = 35 ∧ b < m then nI (ldN D b) else if a = 36 ∧ b < m then nI (if 1 ≤ b then fwN (ldN D) (k + 1) b else fwN (ldN D) k b) else h.1 a b) = (if a = 35 ∧ b < m then nI (ldN D b) else if a = 36 ∧ b < m then nI (if m ≤ b then fwN (ldN D) (k + 1 + 1) b else fwN (ldN D) (k + 1) b) else h.1 a b)
  by_cases h2 : a = 35 ∧ b < m
  · rw [if_pos h2, if_pos h2]
  · rw [if_neg h2, if_neg h2]
    by_cases h3 : a = 36 ∧ b < m
    · rw [if_pos h3, if_pos h3, if_neg (show ¬ m ≤ b by omega)]
      by_cases h4 : 1 ≤ b
      · rw [if_pos h4]
      · have hb0 : b = 0 := by omega
        rw [if_neg h4, hb0, fwN_0]
    · rw [if_neg h3, if_neg h3]
theorem FLd_G (h : Hp) (r m : Nat) : FLd h r m = GHp h (dg r) m 0 m := by
  refine Prod.ext ?_ rfl
  funext a b
  show (if (a = 35 ∨ a = 36) ∧ b < m then nI (ldN (dg r) b) else h.1 a b) = (if a = 35 ∧ b < m then nI (ldN (dg r) b) else if a = 36 ∧ b < m then nI (if m ≤ b then fwN (ldN (dg r)) (0 + 1) b else fwN (ldN (dg r)) 0 b) else h.1 a b)
  by_cases h2 : a = 35 ∧ b < m
  · rw [if_pos h2, if_pos (by omega)]
  · rw [if_neg h2]
    by_cases h3 : a = 36 ∧ b < m
    · rw [if_pos h3, if_pos (by omega), if_neg (show ¬ m ≤ b by omega)]
      rfl
    · rw [if_neg h3, if_neg (by omega)]
theorem X_gl20 {T : Type} {D : Nat → Nat} (hD : ∀ i, D i ≤ 9) {m k s : Nat} (hm : m ≤ 256) (hs : s < m) (h : Hp) (kx : Int32 → Int32 → Option T) : f_X5_giveToOneMoreHand_l20 (nI s) (GHp h D m k (s + 1)) kx FU (nI (fwN (ldN D) k s)) 1 = kx (nI (fwN (ldN D) (k + 1) s)) (nI (s + 1)) := by
  rw [fwN_s]
  refine loop_FU (fun f (q : Int32 × Int32) => f_X5_giveToOneMoreHand_l20 (nI s) (GHp h D m k (s + 1)) kx f q.1 q.2) (fun g => (nI (gmn (ldN D) (fwN (ldN D) k) s g), nI (g + 1))) s _ (by omega) (fun f g hg => ?_) (fun f => ?_)
  · show f_X5_giveToOneMoreHand_l20 (nI s) (GHp h D m k (s + 1)) kx (f + 1) (nI (gmn (ldN D) (fwN (ldN D) k) s g)) (nI (g + 1)) = f_X5_giveToOneMoreHand_l20 (nI s) (GHp h D m k (s + 1)) kx f (nI (gmn (ldN D) (fwN (ldN D) k) s (g + 1))) (nI (g + 1 + 1))
    have hf72 := fwN_le (ldN_le hD) k
    have hg72 : gmn (ldN D) (fwN (ldN D) k) s g ≤ 72 := Nat.le_trans (gmn_top g) (hf72 s)
    have hl72 := ldN_le hD (g + 1)
    have hr72 := hf72 (s - (g + 1))
    have hal : (g + 1) &&& s ≤ g + 1 := Nat.and_le_left
    rw [f_X5_giveToOneMoreHand_l20, if_neg (nI_nlt (by omega) (by omega)), nI_and, gmn]
    by_cases hc : (g + 1) &&& s = g + 1
    · rw [if_pos (show nI ((g + 1) &&& s) = nI (g + 1) by rw [hc]), if_pos hc, at_ok _ _ (show g + 1 < 256 by omega) (by omega), GHp_35 _ _ _ _ (show g + 1 < m by omega), pk_sub (by omega), at_ok _ _ (show s - (g + 1) < 256 by omega) (by omega), GHp_36 _ _ _ _ (show s - (g + 1) < m by omega), if_neg (show ¬ s + 1 ≤ s - (g + 1) by omega)]
      simp only [obs]
      rw [imax_nI (by omega) (by omega), imin_nI (by omega) (by omega), nI_succ']
    · rw [if_neg (fun q => hc ((nI_eq (by omega) (by omega)).mp q)), if_neg hc]
      simp only [obs]
      rw [nI_succ']
  · show f_X5_giveToOneMoreHand_l20 (nI s) (GHp h D m k (s + 1)) kx (f + 1) _ (nI (s + 1)) = _
    rw [f_X5_giveToOneMoreHand_l20, if_pos (nI_lt (by omega) (by omega))]
theorem X_give {D : Nat → Nat} (hD : ∀ i, D i ≤ 9) {m k : Nat} (h0 : 0 < m) (hm : m ≤ 256) (h : Hp) : f_X5_giveToOneMoreHand (nI m) (GHp h D m k m) = some (GHp h D m (k + 1) m) := by
  rw [f_X5_giveToOneMoreHand, show nI m - (1 : Int32) = nI (m - 1) from pk_sub (b := 1) (by omega)]
  simp only [obs]
  have key := loop_FU (fun f (q : Int32 × Hp) => f_X5_giveToOneMoreHand_l4 (fun (w12 : Int32) (h13 : Hp) => some h13) f q.1 q.2) (fun j => (nI (m - 1 - j), GHp h D m k (m - j))) (m - 1) (some (GHp h D m (k + 1) m)) (by omega) (fun f j hj => by
      show f_X5_giveToOneMoreHand_l4 (fun (w12 : Int32) (h13 : Hp) => some h13) (f + 1) (nI (m - 1 - j)) (GHp h D m k (m - j)) = f_X5_giveToOneMoreHand_l4 (fun (w12 : Int32) (h13 : Hp) => some h13) f (nI (m - 1 - (j + 1))) (GHp h D m k (m - (j + 1)))
      obtain ⟨s, hs⟩ : ∃ s, s = m - 1 - j := ⟨_, rfl⟩
      rw [show m - 1 - j = s by omega, show m - j = s + 1 by omega, show m - 1 - (j + 1) = s - 1 by omega, show m - (j + 1) = s by omega, f_X5_giveToOneMoreHand_l4, if_neg (show ¬ nI s ≤ 0 from nI_ge (a := 0) (by omega) (by omega)), at_ok _ _ (show s < 256 by omega) (by omega), GHp_36 _ _ _ _ (show s < m by omega), if_neg (show ¬ s + 1 ≤ s by omega)]
      simp only [obs]
      rw [X_gl20 hD hm (by omega), put_ok _ _ _ (show s < 256 by omega) (by omega), GHp_s _ _ _ _ _ (by omega)]
      simp only [obs]
      rw [show nI s + (-1 : Int32) = nI (s - 1) by
        obtain ⟨s', rfl⟩ : ∃ s', s = s' + 1 := ⟨s - 1, by omega⟩
        rw [nI_dec, Nat.add_sub_cancel]])
    (fun f => by
      show f_X5_giveToOneMoreHand_l4 (fun (w12 : Int32) (h13 : Hp) => some h13) (f + 1) (nI (m - 1 - (m - 1))) (GHp h D m k (m - (m - 1))) = _
      rw [Nat.sub_self, show m - (m - 1) = 1 by omega, f_X5_giveToOneMoreHand_l4, if_pos (show nI 0 ≤ 0 by decide), GHp_n])
  exact key
theorem X_mended {r n k : Nat} (hr : r < 2 ^ 31) (h1 : 1 ≤ n) (hn : n ≤ 8) (hk : k ≤ 3) (hlt : r < 10 ^ n) (ha : ∀ i, i < n → dg r i ≠ 0) (h : Hp) : f_X5_mended (nI r) (nI n) (nI (k + 1)) h = some (nI (fwN (ldN (dg r)) k (2 ^ n - 1)), GHp h (dg r) (2 ^ n) k (2 ^ n)) := by
  have h8 : 2 ^ n ≤ 2 ^ 8 := Nat.pow_le_pow_right (by omega) hn
  have hp : 0 < 2 ^ n := Nat.pow_pos (by omega)
  have e1 : f_X5_within (nI n) (1 : Int32) (8 : Int32) = some 1 := in_ok (a := 1) (b := 8) h1 hn (by omega)
  have e2 : f_X5_within (nI (k + 1)) (1 : Int32) (4 : Int32) = some 1 := in_ok (a := 1) (b := 4) (by omega) (by omega) (by omega)
  rw [f_X5_mended, e1, e2]
  simp only [obs, if_neg one_ne]
  rw [X_has_all hr hn hlt ha]
  simp only [obs, if_neg one_ne]
  rw [sh1 n (by omega), X_fillLoads hr (by omega), FLd_G]
  simp only [obs]
  refine loop_FU (fun f (q : Int32 × Hp) => f_X5_mended_l48 (nI (k + 1)) (nI (2 ^ n)) (fun (w8 : Int32) (h9 : Hp) => Option.bind (f_X5_at 36 256 (nI (2 ^ n) - (1 : Int32)) h9) fun v10 => some (v10, h9)) f q.1 q.2) (fun j => (nI (j + 2), GHp h (dg r) (2 ^ n) j (2 ^ n))) k _ (by omega) (fun f j hj => ?_) (fun f => ?_)
  · show f_X5_mended_l48 (nI (k + 1)) (nI (2 ^ n)) (fun (w8 : Int32) (h9 : Hp) => Option.bind (f_X5_at 36 256 (nI (2 ^ n) - (1 : Int32)) h9) fun v10 => some (v10, h9)) (f + 1) (nI (j + 2)) (GHp h (dg r) (2 ^ n) j (2 ^ n)) = f_X5_mended_l48 (nI (k + 1)) (nI (2 ^ n)) (fun (w8 : Int32) (h9 : Hp) => Option.bind (f_X5_at 36 256 (nI (2 ^ n) - (1 : Int32)) h9) fun v10 => some (v10, h9)) f (nI (j + 1 + 2)) (GHp h (dg r) (2 ^ n) (j + 1) (2 ^ n))
    rw [f_X5_mended_l48, if_neg (nI_nlt (by omega) (by omega)), X_give (dg_9 r) hp (by omega)]
    simp only [obs]
    rw [nI_succ', show j + 2 + 1 = j + 1 + 2 by omega]
  · show f_X5_mended_l48 (nI (k + 1)) (nI (2 ^ n)) (fun (w8 : Int32) (h9 : Hp) => Option.bind (f_X5_at 36 256 (nI (2 ^ n) - (1 : Int32)) h9) fun v10 => some (v10, h9)) (f + 1) (nI (k + 2)) (GHp h (dg r) (2 ^ n) k (2 ^ n)) = _
    rw [f_X5_mended_l48, if_pos (nI_lt (by omega) (by omega)), show nI (2 ^ n) - (1 : Int32) = nI (2 ^ n - 1) from pk_sub (b := 1) (by omega), at_ok _ _ (show 2 ^ n - 1 < 256 by omega) (by omega), GHp_36 _ _ _ _ (show 2 ^ n - 1 < 2 ^ n by omega), if_neg (show ¬ 2 ^ n ≤ 2 ^ n - 1 by omega)]
    simp only [obs]
