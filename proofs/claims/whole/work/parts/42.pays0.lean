/-! LONGS of small numbers, and the greatest common divisor on both sides. -/
def nL (k : Nat) : Int64 := Int64.ofNat k
theorem nL_toInt {k : Nat} (h : k < 2 ^ 63) : (nL k).toInt = k := Int64.toInt_ofNat_of_lt h
theorem nL_eq {a b : Nat} (ha : a < 2 ^ 63) (hb : b < 2 ^ 63) : nL a = nL b ↔ a = b := by
  constructor
  · intro h
    have h2 := congrArg Int64.toInt h
    rw [nL_toInt ha, nL_toInt hb] at h2
    omega
  · intro h; rw [h]
theorem nL_lt {a b : Nat} (ha : a < 2 ^ 63) (hb : b < 2 ^ 63) : nL a < nL b ↔ a < b := by
  rw [Int64.lt_iff_toInt_lt, nL_toInt ha, nL_toInt hb]
  omega
theorem nL_add (a b : Nat) : nL a + nL b = nL (a + b) := (Int64.ofNat_add a b).symm
theorem nI_L {r : Nat} (h : r < 2 ^ 31) : (nI r).toInt64 = nL r := by
  apply Int64.toInt_inj.mp
  rw [Int32.toInt_toInt64, nI_toInt h, nL_toInt (by omega)]
theorem cmp_lt {a b : Nat} (ha : a < 2 ^ 63) (hb : b < 2 ^ 63) : lg_cmp (nL a) (nL b) < 0 ↔ a < b := by
  unfold lg_cmp
  by_cases h : b < a
  · rw [if_pos (show nL a > nL b from (nL_lt hb ha).mpr h)]
    exact ⟨fun q => absurd q (by decide), fun q => by omega⟩
  · rw [if_neg (show ¬ nL a > nL b from fun q => h ((nL_lt hb ha).mp q))]
    by_cases h2 : a = b
    · rw [if_pos (by rw [h2])]
      exact ⟨fun q => absurd q (by decide), fun q => by omega⟩
    · rw [if_neg (fun q => h2 ((nL_eq ha hb).mp q))]
      exact ⟨fun _ => by omega, fun _ => by decide⟩
theorem cmp_0 {a b : Nat} (ha : a < 2 ^ 63) (hb : b < 2 ^ 63) : lg_cmp (nL a) (nL b) = 0 ↔ a = b := by
  unfold lg_cmp
  by_cases h : b < a
  · rw [if_pos (show nL a > nL b from (nL_lt hb ha).mpr h)]
    exact ⟨fun q => absurd q (by decide), fun q => by omega⟩
  · rw [if_neg (show ¬ nL a > nL b from fun q => h ((nL_lt hb ha).mp q))]
    by_cases h2 : a = b
    · rw [if_pos (by rw [h2])]
      exact ⟨fun _ => h2, fun _ => rfl⟩
    · rw [if_neg (fun q => h2 ((nL_eq ha hb).mp q))]
      exact ⟨fun q => absurd q (by decide), fun q => absurd q h2⟩
theorem cmp_z {a : Nat} (ha : a < 2 ^ 63) : lg_cmp (nL a) 0 = 0 ↔ a = 0 := cmp_0 (b := 0) ha (by omega)
theorem cmp_le {a b : Nat} (ha : a < 2 ^ 63) (hb : b < 2 ^ 63) : lg_cmp (nL a) (nL b) ≤ 0 ↔ a ≤ b := by
  unfold lg_cmp
  by_cases h : b < a
  · rw [if_pos (show nL a > nL b from (nL_lt hb ha).mpr h)]
    exact ⟨fun q => absurd q (by decide), fun q => by omega⟩
  · rw [if_neg (show ¬ nL a > nL b from fun q => h ((nL_lt hb ha).mp q))]
    refine ⟨fun _ => by omega, fun _ => ?_⟩
    split <;> decide
theorem ldv_nL {a b : Nat} (ha : a < 2 ^ 63) (hb : b < 2 ^ 63) (h0 : 0 < b) : ldv (nL a) (nL b) = some (nL (a / b)) := by
  unfold ldv
  rw [if_neg (show ¬ nL b = 0 from fun q => by
    have := (nL_eq (b := 0) hb (by omega)).mp q
    omega)]
  congr 1
  apply Int64.toInt_inj.mp
  have hab := Nat.div_le_self a b
  rw [Int64.toInt_div, nL_toInt ha, nL_toInt hb, nL_toInt (by omega)]
  rw [show ((a : Int).tdiv (b : Int)) = ((a / b : Nat) : Int) from rfl]
  generalize a / b = q at hab ⊢
  exact Int.bmod_eq_of_le (by omega) (by omega)
theorem x_pow1 : ∀ j, j < 9 → Int64.ofNat (10 ^ j) * (10 : Int64) = Int64.ofNat (10 ^ (j + 1)) := by decide +kernel
theorem X_pow {n : Nat} (hn : n ≤ 9) : f_X5_powerOfTen (nI n) = some (nL (10 ^ n)) := by
  rw [f_X5_powerOfTen]
  refine loop_FU (fun f (q : Int64 × Int32) => f_X5_powerOfTen_l4 (nI n) (fun (w3 : Int64) (w4 : Int32) => some w3) f q.1 q.2) (fun j => (nL (10 ^ j), nI j)) n _ (by omega) (fun f j hj => ?_) (fun f => ?_)
  · show f_X5_powerOfTen_l4 (nI n) _ (f + 1) (nL (10 ^ j)) (nI j) = f_X5_powerOfTen_l4 (nI n) _ f (nL (10 ^ (j + 1))) (nI (j + 1))
    rw [f_X5_powerOfTen_l4, if_neg (nI_ge hj (by omega)), show nL (10 ^ j) * (10 : Int64) = nL (10 ^ (j + 1)) from x_pow1 j (by omega)]
    simp only [obs]
    rw [nI_succ']
  · show f_X5_powerOfTen_l4 (nI n) _ (f + 1) _ (nI n) = _
    rw [f_X5_powerOfTen_l4, if_pos (nI_le (Nat.le_refl n) (by omega))]
theorem lrm_nL {a b : Nat} (ha : a < 2 ^ 63) (hb : b < 2 ^ 63) (h0 : 0 < b) : lrm (nL a) (nL b) = some (nL (a % b)) := by
  have hd := ldv_nL ha hb h0
  unfold ldv at hd
  unfold lrm lrem
  have hne : ¬ nL b = 0 := fun q => by
    have := (nL_eq (b := 0) hb (by omega)).mp q
    omega
  rw [if_neg hne] at hd ⊢
  rw [Option.some.inj hd]
  have e : nL a = nL (a % b) + nL (a / b) * nL b := by
    rw [show nL (a / b) * nL b = nL (a / b * b) from (Int64.ofNat_mul _ _).symm, nL_add]
    congr 1
    have := Nat.div_add_mod a b
    rw [Nat.mul_comm (a / b) b]
    omega
  rw [e, Int64.add_sub_cancel]
theorem gcd_step {a b : Nat} (h : b ≠ 0) : Nat.gcd a b = Nat.gcd b (a % b) := by
  rw [Nat.gcd_comm a b, Nat.gcd_rec b a, Nat.gcd_comm]
theorem mod_half {b c k : Nat} (hb : b < 2 ^ (k + 1)) (hc : c < b) (h0 : c ≠ 0) : b % c < 2 ^ k := by
  rw [Nat.pow_succ] at hb
  by_cases h : 2 * c ≤ b
  · have := Nat.mod_lt b (show 0 < c by omega)
    omega
  · have e : b % c = b - c := by
      rw [Nat.mod_eq_sub_mod (by omega), Nat.mod_eq_of_lt (by omega)]
    omega
theorem X_gcd : ∀ (k a b c f : Nat), a < 2 ^ 62 → b < 2 ^ 62 → b < 2 ^ k → c + 2 * k < 200 → 2 * k < f → f_X5_commonDivisor_l9 (fun (w3 : Int64) (w4 : Int64) (w5 : Int32) => some w3) f (nL a) (nL b) (nI c) = some (nL (Nat.gcd a b)) := by
  intro k
  induction k with
  | zero =>
    intro a b c f ha hb hk hc hf
    obtain ⟨f, rfl⟩ : ∃ f', f = f' + 1 := ⟨f - 1, by omega⟩
    have h0 : b = 0 := by simpa using hk
    rw [h0, f_X5_commonDivisor_l9, if_neg (show ¬ (200 : Int32) ≤ nI c from nI_ge (b := 200) (by omega) (by omega)), if_pos (by decide), Nat.gcd_zero_right]
  | succ k ih =>
    intro a b c f ha hb hk hc hf
    obtain ⟨f, rfl⟩ : ∃ f', f = f' + 2 := ⟨f - 2, by omega⟩
    rw [show f + 2 = (f + 1) + 1 by omega, f_X5_commonDivisor_l9, if_neg (show ¬ (200 : Int32) ≤ nI c from nI_ge (b := 200) (by omega) (by omega))]
    by_cases h0 : b = 0
    · rw [if_pos ((cmp_z (by omega)).mpr h0), h0, Nat.gcd_zero_right]
    · rw [if_neg (fun q => h0 ((cmp_z (by omega)).mp q)), lrm_nL (by omega) (by omega) (by omega)]
      simp only [obs]
      have hm := Nat.mod_lt a (show 0 < b by omega)
      rw [nI_succ', f_X5_commonDivisor_l9, if_neg (show ¬ (200 : Int32) ≤ nI (c + 1) from nI_ge (b := 200) (by omega) (by omega)), gcd_step h0]
      by_cases h1 : a % b = 0
      · rw [if_pos ((cmp_z (by omega)).mpr h1), h1, Nat.gcd_zero_right]
      · have hm2 := Nat.mod_lt b (show 0 < a % b by omega)
        rw [if_neg (fun q => h1 ((cmp_z (by omega)).mp q)), lrm_nL (by omega) (by omega) (by omega)]
        simp only [obs]
        rw [nI_succ', gcd_step h1]
        exact ih _ _ _ _ (by omega) (by omega) (mod_half hk hm h1) (by omega) (by omega)
theorem M_gcd {T : Type} (s0 s2 : Int64) (s4 : Int32) (kx : Int64 → Int64 → Option T) : ∀ (k a b f : Nat), a < 2 ^ 62 → b < 2 ^ 62 → b < 2 ^ k → 2 * k < f → f_X6_lowest_l6 s0 s2 s4 kx f (nL a) (nL b) = kx (nL (Nat.gcd a b)) (nL 0) := by
  intro k
  induction k with
  | zero =>
    intro a b f ha hb hk hf
    obtain ⟨f, rfl⟩ : ∃ f', f = f' + 1 := ⟨f - 1, by omega⟩
    have h0 : b = 0 := by simpa using hk
    rw [h0, f_X6_lowest_l6, if_pos (by decide), Nat.gcd_zero_right]
  | succ k ih =>
    intro a b f ha hb hk hf
    obtain ⟨f, rfl⟩ : ∃ f', f = f' + 2 := ⟨f - 2, by omega⟩
    rw [show f + 2 = (f + 1) + 1 by omega, f_X6_lowest_l6]
    by_cases h0 : b = 0
    · rw [if_pos ((cmp_z (by omega)).mpr h0), h0, Nat.gcd_zero_right]
    · rw [if_neg (fun q => h0 ((cmp_z (by omega)).mp q)), lrm_nL (by omega) (by omega) (by omega)]
      simp only [obs]
      have hm := Nat.mod_lt a (show 0 < b by omega)
      rw [f_X6_lowest_l6, gcd_step h0]
      by_cases h1 : a % b = 0
      · rw [if_pos ((cmp_z (by omega)).mpr h1), h1, Nat.gcd_zero_right]
      · have hm2 := Nat.mod_lt b (show 0 < a % b by omega)
        rw [if_neg (fun q => h1 ((cmp_z (by omega)).mp q)), lrm_nL (by omega) (by omega) (by omega)]
        simp only [obs]
        rw [gcd_step h1]
        exact ih _ _ _ (by omega) (by omega) (mod_half hk hm h1) (by omega)
theorem low_same {a : Nat} (ha : a < 2 ^ 62) {w : Nat} (hw : w ≤ 1) : ∃ r, f_X5_lowestTerms (nL a) 2520 (nI w) = some r ∧ f_X6_lowest (nL a) 2520 (nI w) = some r := by
  have hg := Nat.gcd_pos_of_pos_right a (show 0 < 2520 by omega)
  have hgl : Nat.gcd a 2520 ≤ 2520 := Nat.gcd_le_right a (by omega)
  have e1 : f_X5_commonDivisor (nL a) 2520 = some (nL (Nat.gcd a 2520)) := by
    rw [f_X5_commonDivisor]
    exact X_gcd 12 a 2520 0 FU ha (by omega) (by omega) (by omega) (by rw [FU_eq]; omega)
  have e2 : f_X6_lowest (nL a) 2520 (nI w) = (if nI w = 0 then ldv (nL a) (nL (Nat.gcd a 2520)) else ldv (nL 2520) (nL (Nat.gcd a 2520))) := by
    rw [f_X6_lowest]
    refine (M_gcd (nL a) 2520 (nI w) _ 12 a 2520 FU ha (by omega) (by omega) (by rw [FU_eq]; omega)).trans ?_
    rw [ldv_nL (by omega) (by omega) hg, show ldv (2520 : Int64) (nL (Nat.gcd a 2520)) = some (nL (2520 / Nat.gcd a 2520)) from ldv_nL (a := 2520) (by omega) (by omega) hg, ldv_nL (a := 2520) (by omega) (by omega) hg]
    simp only [obs]
  have hle : ¬ lg_cmp (nL (Nat.gcd a 2520)) 0 ≤ 0 := fun q => by
    have := (cmp_le (b := 0) (by omega) (by omega)).mp q
    omega
  rw [f_X5_lowestTerms, e1, e2]
  simp only [obs]
  by_cases h0 : w = 0
  · subst h0
    rw [if_pos (show nI 0 = 0 from rfl), if_pos (show nI 0 = 0 from rfl)]
    simp only [obs]
    rw [if_neg hle, ldv_nL (by omega) (by omega) hg]
    exact ⟨_, rfl, rfl⟩
  · rw [if_neg (nzn (show w < 2 ^ 31 by omega) h0), if_neg (nzn (show w < 2 ^ 31 by omega) h0)]
    simp only [obs]
    rw [if_neg hle, ldv_nL (a := 2520) (by omega) (by omega) hg]
    exact ⟨_, show (Option.bind (ldv (nL 2520) _) fun v4 => some v4) = _ from by rw [ldv_nL (a := 2520) (by omega) (by omega) hg]; rfl, rfl⟩
