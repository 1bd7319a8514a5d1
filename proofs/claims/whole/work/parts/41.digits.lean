/-! DIGITS of a row, and the powers of ten. -/
theorem X_digit {r k : Nat} (hr : r < 2 ^ 31) (hk : k < 10) : f_X5_digit (nI r) (nI k) = some (nI (r / 10 ^ k % 10)) := by
  rw [f_X5_digit]
  have hle : ∀ j, r / 10 ^ j < 2 ^ 31 := fun j => Nat.lt_of_le_of_lt (Nat.div_le_self _ _) hr
  have key := loop_FU (fun f (q : Int32 × Int32) => f_X5_digit_l4 (nI k) (fun (w3 : Int32) (w4 : Int32) => some (irem w3 (10 : Int32))) f q.1 q.2) (fun j => (nI (r / 10 ^ j), nI j)) k (some (nI (r / 10 ^ k % 10))) (by omega) (fun f j hj => by
      show f_X5_digit_l4 (nI k) _ (f + 1) (nI (r / 10 ^ j)) (nI j) = f_X5_digit_l4 (nI k) _ f (nI (r / 10 ^ (j + 1))) (nI (j + 1))
      rw [f_X5_digit_l4, if_neg (nI_ge hj (by omega)), show nI (r / 10 ^ j) / (10 : Int32) = nI (r / 10 ^ j / 10) from div_nI (d := 10) (hle j) (by omega) (by omega)]
      simp only [obs]
      rw [nI_succ', Nat.div_div_eq_div_mul, Nat.pow_succ])
    (fun f => by
      show f_X5_digit_l4 (nI k) _ (f + 1) (nI (r / 10 ^ k)) (nI k) = _
      rw [f_X5_digit_l4, if_pos (nI_le (Nat.le_refl k) (by omega)), show irem (nI (r / 10 ^ k)) (10 : Int32) = nI (r / 10 ^ k % 10) from irem_nI (d := 10) (hle k) (by omega) (by omega)])
  dsimp only at key
  rw [Nat.pow_zero, Nat.div_one] at key
  exact key
def dg (r k : Nat) : Nat := r / 10 ^ k % 10
theorem dg_lt (r k : Nat) : dg r k < 10 := Nat.mod_lt _ (by omega)
/-- how many of the first k digits are at least m -/
def usr (r m : Nat) : Nat → Nat
  | 0 => 0
  | k + 1 => usr r m k + if m ≤ dg r k then 1 else 0
theorem usr_le (r m : Nat) : ∀ k, usr r m k ≤ k
  | 0 => Nat.le_refl _
  | k + 1 => by
    have := usr_le r m k
    rw [usr]
    split <;> omega
theorem X_users {r n m : Nat} (hr : r < 2 ^ 31) (hn : n ≤ 9) (hm : m ≤ 10) : f_X5_countUsers (nI r) (nI n) (nI m) = some (nI (usr r m n)) := by
  rw [f_X5_countUsers]
  refine loop_FU (fun f (q : Int32 × Int32) => f_X5_countUsers_l5 (nI r) (nI n) (nI m) (fun (w5 : Int32) (w6 : Int32) => some w5) f q.1 q.2) (fun j => (nI (usr r m j), nI j)) n _ (by omega) (fun f j hj => ?_) (fun f => ?_)
  · show f_X5_countUsers_l5 (nI r) (nI n) (nI m) _ (f + 1) (nI (usr r m j)) (nI j) = f_X5_countUsers_l5 (nI r) (nI n) (nI m) _ f (nI (usr r m (j + 1))) (nI (j + 1))
    rw [f_X5_countUsers_l5, if_neg (nI_ge hj (by omega)), X_digit hr (by omega), usr]
    simp only [obs]
    have hd := dg_lt r j
    show (if nI (dg r j) < nI m then _ else _) = _
    by_cases h : m ≤ dg r j
    · rw [if_neg (nI_nlt h (by omega)), if_pos h, nI_succ', nI_succ']
    · rw [if_pos (nI_lt (by omega) (by omega)), if_neg h, nI_succ', Nat.add_zero (usr r m j)]
  · show f_X5_countUsers_l5 (nI r) (nI n) (nI m) _ (f + 1) _ (nI n) = _
    rw [f_X5_countUsers_l5, if_pos (nI_le (Nat.le_refl n) (by omega))]
