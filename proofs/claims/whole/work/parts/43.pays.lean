/-! PAYS, both sides. -/
theorem sN_split (f : Nat → Nat) : ∀ n, sN f (n + 1) = f 0 + sN (fun k => f (k + 1)) n
  | 0 => by rw [sN, sN, sN]; omega
  | n + 1 => by
    rw [sN, sN_split f n, sN]
    omega
theorem sN_rev (f : Nat → Nat) : ∀ n, sN (fun q => f (n - 1 - q)) n = sN f n
  | 0 => rfl
  | n + 1 => by
    rw [sN_split]
    have e : sN (fun k => f (n + 1 - 1 - (k + 1))) n = sN (fun q => f (n - 1 - q)) n := sN_congr (fun k _ => by
      show f (n + 1 - 1 - (k + 1)) = f (n - 1 - k)
      rw [show n + 1 - 1 - (k + 1) = n - 1 - k by omega])
    rw [e, sN_rev f n, sN]
    show f (n + 1 - 1 - 0) + sN f n = sN f n + f n
    rw [show n + 1 - 1 - 0 = n by omega]
    omega
theorem usr_sN (r m : Nat) : ∀ k, usr r m k = sN (fun j => if m ≤ dg r j then 1 else 0) k
  | 0 => rfl
  | k + 1 => by rw [usr, sN, usr_sN r m k]
theorem usr_pos {r m n j : Nat} (hj : j < n) (h : m ≤ dg r j) : 0 < usr r m n := by
  rw [usr_sN]
  have h1 := sN_ge (f := fun j => if m ≤ dg r j then 1 else 0) hj
  have h2 : (if m ≤ dg r j then 1 else 0) ≤ sN (fun j => if m ≤ dg r j then 1 else 0) n := h1
  rw [if_pos h] at h2
  omega
def shr (r n : Nat) : Nat → Nat
  | 0 => 0
  | m + 1 => shr r n m + 2520 / usr r (m + 1) n
theorem shr_le (r n : Nat) : ∀ m, shr r n m ≤ 2520 * m
  | 0 => Nat.le_refl _
  | m + 1 => by
    have h1 := shr_le r n m
    have h2 := Nat.div_le_self 2520 (usr r (m + 1) n)
    rw [shr]
    omega
theorem idv_ok {a b : Nat} (ha : a < 2 ^ 31) (hb : b < 2 ^ 31) (h0 : 0 < b) : idv (nI a) (nI b) = some (nI (a / b)) := by
  unfold idv
  rw [if_neg (nzn hb (by omega)), div_nI ha h0 hb]
section PAYS
variable {r n : Nat}
theorem X_l70 {T : Type} (hr : r < 2 ^ 31) (hn : n ≤ 9) {j : Nat} (hj : j < n) (s4 : Int32) (kx : Int64 → Int32 → Option T) : f_X5_pays_l70 (nI r) (nI n) s4 (nI (dg r j)) kx FU 0 1 = kx (nL (shr r n (dg r j))) (nI (dg r j + 1)) := by
  have hD := dg_lt r j
  refine loop_FU (fun f (q : Int64 × Int32) => f_X5_pays_l70 (nI r) (nI n) s4 (nI (dg r j)) kx f q.1 q.2) (fun k => (nL (shr r n k), nI (k + 1))) (dg r j) _ (by omega) (fun f k hk => ?_) (fun f => ?_)
  · show f_X5_pays_l70 (nI r) (nI n) s4 (nI (dg r j)) kx (f + 1) (nL (shr r n k)) (nI (k + 1)) = f_X5_pays_l70 (nI r) (nI n) s4 (nI (dg r j)) kx f (nL (shr r n (k + 1))) (nI (k + 1 + 1))
    have hu := usr_pos (r := r) (m := k + 1) hj (by omega)
    have hu2 := usr_le r (k + 1) n
    have hq := Nat.div_le_self 2520 (usr r (k + 1) n)
    rw [f_X5_pays_l70, if_neg (nI_nlt (by omega) (by omega)), X_users hr hn (by omega)]
    simp only [obs]
    rw [if_neg (show ¬ nI (usr r (k + 1) n) ≤ 0 from nI_ge (a := 0) (by omega) (by omega)), show idv (2520 : Int32) (nI (usr r (k + 1) n)) = some (nI (2520 / usr r (k + 1) n)) from idv_ok (a := 2520) (by omega) (by omega) hu]
    simp only [obs]
    rw [nI_L (by omega), nL_add, nI_succ', shr]
  · show f_X5_pays_l70 (nI r) (nI n) s4 (nI (dg r j)) kx (f + 1) (nL (shr r n (dg r j))) (nI (dg r j + 1)) = _
    rw [f_X5_pays_l70, if_pos (nI_lt (by omega) (by omega))]
def WD (h : Hp) (r n k : Nat) : Hp := (fun a b => if a = 6 ∧ n ≤ b + k ∧ b < n then nI (dg r (n - 1 - b)) else h.1 a b, h.2)
theorem WD_row (h : Hp) (r n k : Nat) {a : Nat} (ha : a ≠ 6) : (WD h r n k).1 a = h.1 a := by
  unfold WD
  funext b
  simp [ha]
theorem WD_at (h : Hp) (r n : Nat) {b : Nat} (hb : b < n) : (WD h r n n).1 6 b = nI (dg r (n - 1 - b)) := by
  unfold WD
  simp [hb]
theorem WD_0 (h : Hp) (r n : Nat) : WD h r n 0 = h := by
  refine Prod.ext ?_ rfl
  funext a b
  show (if a = 6 ∧ n ≤ b + 0 ∧ b < n then nI (dg r (n - 1 - b)) else h.1 a b) = _
  rw [if_neg (by omega)]
theorem WD_s (h : Hp) (r n k : Nat) (hk : k < n) : ip (WD h r n k) 6 (n - 1 - k) (nI (dg r k)) = WD h r n (k + 1) := by
  refine Prod.ext ?_ rfl
  funext a b
  rw [ip_at]
  show (if a = 6 ∧ b = n - 1 - k then nI (dg r k) else if a = 6 ∧ n ≤ b + k ∧ b < n then nI (dg r (n - 1 - b)) else h.1 a b) = (if a = 6 ∧ n ≤ b + (k + 1) ∧ b < n then nI (dg r (n - 1 - b)) else h.1 a b)
  by_cases h1 : a = 6 ∧ b = n - 1 - k
  · rw [if_pos h1, if_pos (by omega), show n - 1 - b = k by omega]
  · rw [if_neg h1]
    by_cases h2 : a = 6 ∧ n ≤ b + k ∧ b < n
    · rw [if_pos h2, if_pos (by omega)]
    · rw [if_neg h2, if_neg (by omega)]
theorem M_l47 {T : Type} (hr : r < 2 ^ 31) (hn : n ≤ 9) (s3 s4 : Int32) (h : Hp) (kx : Int32 → Int32 → Hp → Option T) : f_X6_pays_l47 (nI n) s3 s4 kx FU (nI r) (nI n + (-1 : Int32)) h = kx (nI (r / 10 ^ n)) (nI 0 + (-1 : Int32)) (WD h r n n) := by
  have hle : ∀ j, r / 10 ^ j < 2 ^ 31 := fun j => Nat.lt_of_le_of_lt (Nat.div_le_self _ _) hr
  have key := loop_FU (fun f (q : Int32 × Int32 × Hp) => f_X6_pays_l47 (nI n) s3 s4 kx f q.1 q.2.1 q.2.2) (fun k => (nI (r / 10 ^ k), nI (n - k) + (-1 : Int32), WD h r n k)) n (kx (nI (r / 10 ^ n)) (nI 0 + (-1 : Int32)) (WD h r n n)) (by omega) (fun f k hk => by
      show f_X6_pays_l47 (nI n) s3 s4 kx (f + 1) (nI (r / 10 ^ k)) (nI (n - k) + (-1 : Int32)) (WD h r n k) = f_X6_pays_l47 (nI n) s3 s4 kx f (nI (r / 10 ^ (k + 1))) (nI (n - (k + 1)) + (-1 : Int32)) (WD h r n (k + 1))
      rw [show n - k = (n - 1 - k) + 1 by omega, nI_dec, show n - (k + 1) = n - 1 - k by omega, f_X6_pays_l47, if_neg (nI_pos (by omega)), show irem (nI (r / 10 ^ k)) (10 : Int32) = nI (dg r k) from irem_nI (d := 10) (hle k) (by omega) (by omega), ast_ok _ _ _ (show n - 1 - k < 9 by omega) (by omega), WD_s _ _ _ _ hk, show nI (r / 10 ^ k) / (10 : Int32) = nI (r / 10 ^ k / 10) from div_nI (d := 10) (hle k) (by omega) (by omega)]
      simp only [obs]
      rw [Nat.div_div_eq_div_mul, Nat.pow_succ])
    (fun f => by
      show f_X6_pays_l47 (nI n) s3 s4 kx (f + 1) (nI (r / 10 ^ n)) (nI (n - n) + (-1 : Int32)) (WD h r n n) = _
      rw [Nat.sub_self, f_X6_pays_l47, if_pos (show nI 0 + (-1 : Int32) < 0 by decide)])
  dsimp only at key
  rw [WD_0, Nat.pow_zero, Nat.div_one, Nat.sub_zero] at key
  exact key
theorem M_l109 {T : Type} (hn : n ≤ 9) (s3 s4 : Int32) (s6 : Int64) {m : Nat} (hm : m ≤ 10) (h : Hp) (kx : Int32 → Int32 → Option T) : f_X6_pays_l109 (nI n) s3 s4 s6 (nI m) (WD h r n n) kx FU 0 0 = kx (nI (usr r m n)) (nI n) := by
  rw [usr_sN, ← sN_rev (fun j => if m ≤ dg r j then 1 else 0) n]
  refine loop_FU (fun f (q : Int32 × Int32) => f_X6_pays_l109 (nI n) s3 s4 s6 (nI m) (WD h r n n) kx f q.1 q.2) (fun k => (nI (sN (fun q => if m ≤ dg r (n - 1 - q) then 1 else 0) k), nI k)) n _ (by omega) (fun f k hk => ?_) (fun f => ?_)
  · show f_X6_pays_l109 (nI n) s3 s4 s6 (nI m) (WD h r n n) kx (f + 1) (nI (sN (fun q => if m ≤ dg r (n - 1 - q) then 1 else 0) k)) (nI k) = f_X6_pays_l109 (nI n) s3 s4 s6 (nI m) (WD h r n n) kx f (nI (sN (fun q => if m ≤ dg r (n - 1 - q) then 1 else 0) k + (if m ≤ dg r (n - 1 - k) then 1 else 0))) (nI (k + 1))
    have hd := dg_lt r (n - 1 - k)
    rw [f_X6_pays_l109, if_neg (nI_ge hk (by omega)), ald_ok _ _ (show k < 9 by omega) (by omega), WD_at _ _ _ hk]
    simp only [obs]
    by_cases hc : m ≤ dg r (n - 1 - k)
    · rw [if_neg (nI_nlt hc (by omega)), if_pos hc]
      simp only [obs]
      rw [nI_succ', nI_succ']
    · rw [if_pos (nI_lt (by omega) (by omega)), if_neg hc]
      simp only [obs]
      rw [nI_succ', Int32.add_zero, Nat.add_zero (sN (fun q => if m ≤ dg r (n - 1 - q) then 1 else 0) k)]
  · show f_X6_pays_l109 (nI n) s3 s4 s6 (nI m) (WD h r n n) kx (f + 1) _ (nI n) = _
    rw [f_X6_pays_l109, if_pos (nI_le (Nat.le_refl n) (by omega))]
theorem M_l92 {T : Type} (hn : n ≤ 9) {i : Nat} (hi : i < n) (s4 : Int32) (h : Hp) (kx : Int64 → Int32 → Option T) : f_X6_pays_l92 (nI n) (nI i) s4 (WD h r n n) kx FU 0 1 = kx (nL (shr r n (dg r (n - 1 - i)))) (nI (dg r (n - 1 - i) + 1)) := by
  have hD := dg_lt r (n - 1 - i)
  refine loop_FU (fun f (q : Int64 × Int32) => f_X6_pays_l92 (nI n) (nI i) s4 (WD h r n n) kx f q.1 q.2) (fun k => (nL (shr r n k), nI (k + 1))) (dg r (n - 1 - i)) _ (by omega) (fun f k hk => ?_) (fun f => ?_)
  · show f_X6_pays_l92 (nI n) (nI i) s4 (WD h r n n) kx (f + 1) (nL (shr r n k)) (nI (k + 1)) = f_X6_pays_l92 (nI n) (nI i) s4 (WD h r n n) kx f (nL (shr r n (k + 1))) (nI (k + 1 + 1))
    have hu := usr_pos (r := r) (n := n) (m := k + 1) (j := n - 1 - i) (by omega) (by omega)
    have hu2 := usr_le r (k + 1) n
    have hq := Nat.div_le_self 2520 (usr r (k + 1) n)
    rw [f_X6_pays_l92, ald_ok _ _ (show i < 9 by omega) (by omega), WD_at _ _ _ hi]
    simp only [obs]
    rw [if_neg (nI_nlt (by omega) (by omega)), M_l109 hn (nI i) s4 (nL (shr r n k)) (show k + 1 ≤ 10 by omega), show idv (2520 : Int32) (nI (usr r (k + 1) n)) = some (nI (2520 / usr r (k + 1) n)) from idv_ok (a := 2520) (by omega) (by omega) hu]
    simp only [obs]
    rw [nI_L (by omega), nL_add, nI_succ', shr]
  · show f_X6_pays_l92 (nI n) (nI i) s4 (WD h r n n) kx (f + 1) (nL (shr r n (dg r (n - 1 - i)))) (nI (dg r (n - 1 - i) + 1)) = _
    rw [f_X6_pays_l92, ald_ok _ _ (show i < 9 by omega) (by omega), WD_at _ _ _ hi]
    simp only [obs]
    rw [if_pos (nI_lt (by omega) (by omega))]
end PAYS
theorem r_pays : op_pays Rl := by
  intro hx hm x1 x2 x3 x4 hr
  rw [f_X5_pays, f_X6_pays, wi_eq, wi_eq, wi_eq]
  rcases in_cases x2 1 9 (by omega) (by omega) with ⟨e, -⟩ | ⟨n, hn1, hn, rfl, e⟩
  · rw [show f_X6_in x2 (1 : Int32) (9 : Int32) = some 0 from e]
    exact ⟨_, hm, rfl, rfl, hr⟩
  rw [show f_X6_in (nI n) (1 : Int32) (9 : Int32) = some 1 from e]
  simp only [obs, if_neg one_ne]
  by_cases h0 : x1 < 0
  · rw [if_pos h0, if_pos h0]
    exact ⟨_, hm, rfl, rfl, hr⟩
  obtain ⟨r, hr31, rfl⟩ : ∃ r : Nat, r < 2 ^ 31 ∧ x1 = nI r := by
    rcases ix_cases x1 (2 ^ 31 - 1) (by omega) with (h | h) | ⟨j, hj, e⟩
    · exact absurd h h0
    · refine ⟨2 ^ 31 - 1, by omega, ?_⟩
      have h1 := Int32.le_iff_toInt_le.mp h
      rw [nI_toInt (by omega)] at h1
      apply Int32.toInt_inj.mp
      rw [nI_toInt (by omega)]
      have h2 := Int32.toInt_lt x1
      omega
    · exact ⟨j, by omega, e⟩
  rw [if_neg h0, if_neg h0, X_pow hn]
  simp only [obs]
  have hp : 10 ^ n < 2 ^ 63 := by
    have h9 : n = 1 ∨ n = 2 ∨ n = 3 ∨ n = 4 ∨ n = 5 ∨ n = 6 ∨ n = 7 ∨ n = 8 ∨ n = 9 := by omega
    rcases h9 with rfl | rfl | rfl | rfl | rfl | rfl | rfl | rfl | rfl <;> decide
  have e1 : nI n - (1 : Int32) = nI (n - 1) := by
    rw [show (1 : Int32) = nI 1 from rfl, pk_sub (by omega)]
  have e2 : nI n - (1 : Int32) = nI n + (-1 : Int32) := Int32.sub_eq_add_neg ..
  rw [nI_L hr31, e1]
  rcases in_cases x3 0 (n - 1) (by omega) (by omega) with ⟨e3, -⟩ | ⟨i, -, hi, rfl, e3⟩
  · rw [show f_X6_in x3 (0 : Int32) (nI (n - 1)) = some 0 from e3]
    simp only [obs]
    refine ⟨_, hm, ?_, rfl, hr⟩
    split <;> rfl
  rw [show f_X6_in (nI i) (0 : Int32) (nI (n - 1)) = some 1 from e3]
  simp only [obs, if_neg one_ne]
  rcases in_cases x4 0 1 (by omega) (by omega) with ⟨e4, -⟩ | ⟨w, -, hw, rfl, e4⟩
  · rw [show f_X6_in x4 (0 : Int32) (1 : Int32) = some 0 from e4]
    simp only [obs]
    refine ⟨_, hm, ?_, rfl, hr⟩
    split <;> rfl
  rw [show f_X6_in (nI w) (0 : Int32) (1 : Int32) = some 1 from e4]
  simp only [obs, if_neg one_ne]
  rw [← e1, e2, M_l47 hr31 hn, ← e2, e1]
  have hfr : Rl hx (WD hm r n n) := hr.frame (eqX.rf _) ⟨fun q hq => WD_row _ _ _ _ (by omega), fun j _ => by rw [WD_row _ _ _ _ (by omega)]⟩
  by_cases hlt : r < 10 ^ n
  · rw [if_pos ((cmp_lt (by omega) hp).mpr hlt), Nat.div_eq_of_lt hlt, if_pos (show nI 0 = 0 from rfl), show nI (n - 1) - nI i = nI (n - 1 - i) from pk_sub (by omega), X_digit hr31 (by omega)]
    simp only [obs]
    rw [M_l92 hn (by omega), show nI (r / 10 ^ (n - 1 - i) % 10) = nI (dg r (n - 1 - i)) from rfl, X_l70 hr31 hn (j := n - 1 - i) (by omega)]
    have hs := shr_le r n (dg r (n - 1 - i))
    have hD := dg_lt r (n - 1 - i)
    obtain ⟨v, v1, v2⟩ := low_same (a := shr r n (dg r (n - 1 - i))) (by omega) hw
    rw [v1, v2]
    exact ⟨v, WD hm r n n, rfl, rfl, hfr⟩
  · have hne : r / 10 ^ n ≠ 0 := by
      have := Nat.div_pos (Nat.le_of_not_lt hlt) (Nat.pow_pos (n := n) (show 0 < 10 by omega))
      omega
    have hle : r / 10 ^ n ≤ r := Nat.div_le_self _ _
    rw [if_neg (fun q => hlt ((cmp_lt (by omega) hp).mp q)), if_neg (nzn (show r / 10 ^ n < 2 ^ 31 by omega) hne)]
    exact ⟨_, WD hm r n n, rfl, rfl, hfr⟩
