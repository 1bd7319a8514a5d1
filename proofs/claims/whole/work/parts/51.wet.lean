/-! WET: the chances, both sides. -/
def chn (t : Nat) : Nat → Nat → Nat
  | 0 => fun k => if k = 0 then 1 else 0
  | d + 1 => fun k => chn t d k * (10 - t) + (if k = 0 then 0 else chn t d (k - 1) * t)
theorem chn_s (t d k : Nat) : chn t (d + 1) k = chn t d k * (10 - t) + (if k = 0 then 0 else chn t d (k - 1) * t) := by rw [chn]
theorem chn_z (t k : Nat) : chn t 0 k = if k = 0 then 1 else 0 := by rw [chn]
theorem chn_0 (t : Nat) : ∀ d k, d < k → chn t d k = 0
  | 0, k, h => by rw [chn_z, if_neg (by omega)]
  | d + 1, k, h => by
    rw [chn_s, chn_0 t d k (by omega), if_neg (by omega), chn_0 t d (k - 1) (by omega), Nat.zero_mul, Nat.zero_mul]
theorem sN_of0 {f : Nat → Nat} : ∀ {n : Nat}, (∀ k, k < n → f k = 0) → sN f n = 0
  | 0, _ => rfl
  | n + 1, h => by rw [sN, sN_of0 (fun k hk => h k (by omega)), h n (by omega)]
theorem sN_mono {f g : Nat → Nat} : ∀ {n : Nat}, (∀ k, k < n → f k ≤ g k) → sN f n ≤ sN g n
  | 0, _ => Nat.le_refl _
  | n + 1, h => by
    have h1 := sN_mono (n := n) (f := f) (g := g) (fun k hk => h k (by omega))
    have h2 := h n (by omega)
    rw [sN, sN]
    omega
theorem sN_mul (f : Nat → Nat) (c : Nat) : ∀ n, sN (fun k => f k * c) n = sN f n * c
  | 0 => by rw [sN, sN, Nat.zero_mul]
  | n + 1 => by rw [sN, sN, sN_mul f c n, Nat.add_mul]
theorem chn_sum {t : Nat} (ht : t ≤ 10) (K : Nat) : ∀ d, sN (chn t d) (K + 1) ≤ 10 ^ d
  | 0 => by
    rw [sN_split, chn_z, if_pos rfl, sN_of0 (fun k _ => by
      show chn t 0 (k + 1) = 0
      rw [chn_z, if_neg (by omega)])]
    exact Nat.le_refl _
  | d + 1 => by
    have ih := chn_sum ht K d
    have e : sN (chn t (d + 1)) (K + 1) = sN (fun k => chn t d k * (10 - t)) (K + 1) + sN (fun k => if k = 0 then 0 else chn t d (k - 1) * t) (K + 1) := by
      rw [← sN_add]
      exact sN_congr (fun k _ => chn_s t d k)
    have e2 : sN (fun k => if k = 0 then 0 else chn t d (k - 1) * t) (K + 1) = sN (fun k => chn t d k * t) K := by
      rw [sN_split, if_pos rfl, Nat.zero_add]
      exact sN_congr (fun k _ => by
        show (if k + 1 = 0 then 0 else chn t d (k + 1 - 1) * t) = chn t d k * t
        rw [if_neg (by omega), Nat.add_sub_cancel])
    have e3 : sN (chn t d) K ≤ sN (chn t d) (K + 1) := by
      rw [sN]
      omega
    rw [e, e2, sN_mul, sN_mul]
    have e4 : sN (chn t d) K * t ≤ sN (chn t d) (K + 1) * t := Nat.mul_le_mul_right t e3
    have e5 : sN (chn t d) (K + 1) * (10 - t) + sN (chn t d) (K + 1) * t = sN (chn t d) (K + 1) * 10 := by
      rw [← Nat.mul_add, Nat.sub_add_cancel ht]
    rw [Nat.pow_succ]
    omega
/-- the chances of all that are not too few, of the first k -/
def upn (n t g : Nat) (k : Nat) : Nat := sN (fun q => if n + q < g then 0 else chn t n q) k
theorem upn_le {n t g : Nat} (ht : t ≤ 10) (K : Nat) : upn n t g (K + 1) ≤ 10 ^ n := by
  refine Nat.le_trans (sN_mono (fun k _ => ?_)) (chn_sum ht K n)
  show (if n + k < g then 0 else chn t n k) ≤ chn t n k
  split
  · exact Nat.zero_le _
  · exact Nat.le_refl _
theorem upn_past (n t g : Nat) : ∀ j, upn n t g (n + 1 + j) = upn n t g (n + 1)
  | 0 => rfl
  | j + 1 => by
    rw [← upn_past n t g j]
    show upn n t g (n + 1 + j) + (if n + (n + 1 + j) < g then 0 else chn t n (n + 1 + j)) = _
    rw [chn_0 t n (n + 1 + j) (by omega)]
    split <;> rfl
theorem nL_mul (a b : Nat) : nL a * nL b = nL (a * b) := (Int64.ofNat_mul a b).symm
theorem chn_step (t d q : Nat) : nL (chn t d q) * nL (10 - t) + (if q = 0 then (0 : Int64) else nL (chn t d (q - 1)) * nL t) = nL (chn t (d + 1) q) := by
  rw [chn_s, nL_mul]
  by_cases h : q = 0
  · rw [if_pos h, if_pos h, show (0 : Int64) = nL 0 from rfl, nL_add]
  · rw [if_neg h, if_neg h, nL_mul, nL_add]
def WH (h : Hp) (r N t d q : Nat) : Hp := (h.1, fun a b => if a = r ∧ b < N then nL (if q ≤ b then chn t (d + 1) b else chn t d b) else h.2 a b)
theorem WH_at (h : Hp) (r : Nat) {N : Nat} (t d q : Nat) {b : Nat} (hb : b < N) : (WH h r N t d q).2 r b = nL (if q ≤ b then chn t (d + 1) b else chn t d b) := by
  unfold WH
  simp [hb]
theorem WH_s (h : Hp) (r N t d q : Nat) (hq : q < N) : lp (WH h r N t d (q + 1)) r q (nL (chn t (d + 1) q)) = WH h r N t d q := by
  refine Prod.ext rfl ?_
  funext a b
  rw [lp_at]
  show (if a = r ∧ b = q then nL (chn t (d + 1) q) else if a = r ∧ b < N then nL (if q + 1 ≤ b then chn t (d + 1) b else chn t d b) else h.2 a b) = (if a = r ∧ b < N then nL (if q ≤ b then chn t (d + 1) b else chn t d b) else h.2 a b)
  by_cases h1 : a = r ∧ b = q
  · rw [if_pos h1, if_pos (by omega), if_pos (by omega), h1.2]
  · rw [if_neg h1]
    by_cases h2 : a = r ∧ b < N
    · rw [if_pos h2, if_pos h2]
      by_cases h3 : q ≤ b
      · rw [if_pos h3, if_pos (by omega)]
      · rw [if_neg h3, if_neg (by omega)]
    · rw [if_neg h2, if_neg h2]
theorem WH_n (h : Hp) (r N t d : Nat) : WH h r N t d 0 = WH h r N t (d + 1) N := by
  refine Prod.ext rfl ?_
  funext a b
  show (if a = r ∧ b < N then nL (if 0 ≤ b then chn t (d + 1) b else chn t d b) else h.2 a b) = (if a = r ∧ b < N then nL (if N ≤ b then chn t (d + 1 + 1) b else chn t (d + 1) b) else h.2 a b)
  by_cases h2 : a = r ∧ b < N
  · rw [if_pos h2, if_pos h2, if_pos (Nat.zero_le _), if_neg (by omega)]
  · rw [if_neg h2, if_neg h2]
theorem WH_row (h : Hp) (r N t d q : Nat) (a : Nat) : (WH h r N t d q).1 a = h.1 a := rfl
/-- the first k of a row of longs are those of day 0 -/
def WF (h : Hp) (r t k : Nat) : Hp := (h.1, fun a b => if a = r ∧ b < k then nL (chn t 0 b) else h.2 a b)
theorem WF_0 (h : Hp) (r t : Nat) : WF h r t 0 = h := by
  unfold WF
  simp
theorem WF_s (h : Hp) (r t k : Nat) : lp (WF h r t k) r k (nL (chn t 0 k)) = WF h r t (k + 1) := by
  refine Prod.ext rfl ?_
  funext a b
  rw [lp_at]
  show (if a = r ∧ b = k then nL (chn t 0 k) else if a = r ∧ b < k then nL (chn t 0 b) else h.2 a b) = (if a = r ∧ b < k + 1 then nL (chn t 0 b) else h.2 a b)
  by_cases h1 : a = r ∧ b = k
  · rw [if_pos h1, if_pos (by omega), h1.2]
  · rw [if_neg h1]
    by_cases h2 : a = r ∧ b < k
    · rw [if_pos h2, if_pos (by omega)]
    · rw [if_neg h2, if_neg (by omega)]
theorem WF_n (h : Hp) (r N t : Nat) : WF h r t N = WH h r N t 0 N := by
  refine Prod.ext rfl ?_
  funext a b
  show (if a = r ∧ b < N then nL (chn t 0 b) else h.2 a b) = (if a = r ∧ b < N then nL (if N ≤ b then chn t (0 + 1) b else chn t 0 b) else h.2 a b)
  by_cases h2 : a = r ∧ b < N
  · rw [if_pos h2, if_pos h2, if_neg (by omega)]
  · rw [if_neg h2, if_neg h2]
def LF (h : Hp) (r k : Nat) : Hp := (h.1, fun a b => if a = r ∧ b < k then (0 : Int64) else h.2 a b)
theorem LF_s (h : Hp) (r k : Nat) : lp (LF h r k) r k 0 = LF h r (k + 1) := by
  refine Prod.ext rfl ?_
  funext a b
  rw [lp_at]
  show (if a = r ∧ b = k then (0 : Int64) else if a = r ∧ b < k then (0 : Int64) else h.2 a b) = (if a = r ∧ b < k + 1 then (0 : Int64) else h.2 a b)
  by_cases h1 : a = r ∧ b = k
  · rw [if_pos h1, if_pos (by omega)]
  · rw [if_neg h1]
    by_cases h2 : a = r ∧ b < k
    · rw [if_pos h2, if_pos (by omega)]
    · rw [if_neg h2, if_neg (by omega)]
theorem LF_1 (h : Hp) (r N t : Nat) (hN : 0 < N) : lp (LF h r N) r 0 1 = WH h r N t 0 N := by
  rw [← WF_n]
  refine Prod.ext rfl ?_
  funext a b
  rw [lp_at]
  show (if a = r ∧ b = 0 then (1 : Int64) else if a = r ∧ b < N then (0 : Int64) else h.2 a b) = (if a = r ∧ b < N then nL (chn t 0 b) else h.2 a b)
  by_cases h1 : a = r ∧ b = 0
  · rw [if_pos h1, if_pos (by omega), h1.2, chn_z, if_pos rfl]
    rfl
  · rw [if_neg h1]
    by_cases h2 : a = r ∧ b < N
    · rw [if_pos h2, if_pos h2, chn_z, if_neg (by omega)]
      rfl
    · rw [if_neg h2, if_neg h2]
theorem X_fillL (h : Hp) : f_J7_fill_d0a16 40 17 (0 : Int64) h = some (LF h 40 17) := by
  rw [f_J7_fill_d0a16]
  simp only [obs]
  have key := loop_FU (fun f (q : Int32 × Hp) => f_J7_fill_d0a16_l6 40 17 (0 : Int64) (Int32.ofNat 17) (fun (_ : Int32) (h5 : Hp) => some h5) f q.1 q.2) (fun k => (nI k, LF h 40 k)) 17 (some (LF h 40 17)) (by omega)
    (fun f k hk => by
      show f_J7_fill_d0a16_l6 40 17 (0 : Int64) (nI 17) _ (f + 1) (nI k) (LF h 40 k) = _
      rw [f_J7_fill_d0a16_l6, if_neg (nI_ge hk (by omega)), last_ok _ _ _ hk (by omega)]
      simp only [obs]
      rw [LF_s, nI_succ']
      rfl)
    (fun f => by
      show f_J7_fill_d0a16_l6 40 17 (0 : Int64) (nI 17) _ (f + 1) (nI 17) (LF h 40 17) = _
      rw [f_J7_fill_d0a16_l6, if_pos (nI_le (Nat.le_refl 17) (by omega))])
  dsimp only at key
  rw [show LF h 40 0 = h by unfold LF; simp] at key
  exact key
theorem X_l39 {T : Type} {t : Nat} (ht : t ≤ 10) (s1 s3 : Int32) (h : Hp) (d : Nat) (kx : Int32 → Hp → Option T) : f_X5_fillChances_l39 s1 (nI t) s3 kx FU (nI 17 + (-1 : Int32)) (WH h 40 17 t d 17) = kx (nI 0 + (-1 : Int32)) (WH h 40 17 t d 0) := by
  refine loop_FU (fun f (q : Int32 × Hp) => f_X5_fillChances_l39 s1 (nI t) s3 kx f q.1 q.2) (fun k => (nI (17 - k) + (-1 : Int32), WH h 40 17 t d (17 - k))) 17 _ (by omega) (fun f k hk => ?_) (fun f => ?_)
  · show f_X5_fillChances_l39 s1 (nI t) s3 kx (f + 1) (nI (17 - k) + (-1 : Int32)) (WH h 40 17 t d (17 - k)) = f_X5_fillChances_l39 s1 (nI t) s3 kx f (nI (17 - (k + 1)) + (-1 : Int32)) (WH h 40 17 t d (17 - (k + 1)))
    obtain ⟨q, hq⟩ : ∃ q, q = 16 - k := ⟨_, rfl⟩
    have hq17 : q < 17 := by omega
    rw [show 17 - k = q + 1 by omega, show 17 - (k + 1) = q by omega, nI_dec, f_X5_fillChances_l39, if_neg (nI_pos (by omega))]
    have e : (if nI q ≤ 0 then (some (0 : Int64)) else (Option.bind (lald 17 (WH h 40 17 t d (q + 1)) 40 (nI q - (1 : Int32))) fun v10 => some (v10 * (nI t).toInt64))) = some (if q = 0 then (0 : Int64) else nL (chn t d (q - 1)) * nL t) := by
      by_cases h0 : q = 0
      · rw [h0]; rfl
      · rw [if_neg (show ¬ nI q ≤ 0 from nI_ge (a := 0) (by omega) (by omega)), if_neg h0, show nI q - (1 : Int32) = nI (q - 1) from pk_sub (b := 1) (by omega), lald_ok _ _ (show q - 1 < 17 by omega) (by omega), WH_at _ _ _ _ _ (show q - 1 < 17 by omega), if_neg (show ¬ q + 1 ≤ q - 1 by omega)]
        simp only [obs]
        rw [nI_L (by omega)]
    rw [e]
    simp only [obs]
    rw [lald_ok _ _ hq17 (by omega), WH_at _ _ _ _ _ hq17, if_neg (show ¬ q + 1 ≤ q by omega)]
    simp only [obs]
    rw [show (10 : Int32) - nI t = nI (10 - t) from pk_sub (a := 10) ht, nI_L (by omega), chn_step, last_ok _ _ _ hq17 (by omega), WH_s _ _ _ _ _ _ hq17]
    simp only [obs]
  · show f_X5_fillChances_l39 s1 (nI t) s3 kx (f + 1) (nI (17 - 17) + (-1 : Int32)) (WH h 40 17 t d (17 - 17)) = _
    rw [Nat.sub_self, f_X5_fillChances_l39, if_pos (show nI 0 + (-1 : Int32) < 0 by decide)]
theorem M_l134 {T : Type} {t : Nat} (ht : t ≤ 10) (s1 s3 s5 : Int32) (s6 : Int64) (s8 : Int32) (h : Hp) (d : Nat) (kx : Int32 → Hp → Option T) : f_X6_wet_l134 s1 (nI t) s3 s5 s6 s8 kx FU (nI 18 + (-1 : Int32)) (WH h 11 18 t d 18) = kx (nI 0 + (-1 : Int32)) (WH h 11 18 t d 0) := by
  refine loop_FU (fun f (q : Int32 × Hp) => f_X6_wet_l134 s1 (nI t) s3 s5 s6 s8 kx f q.1 q.2) (fun k => (nI (18 - k) + (-1 : Int32), WH h 11 18 t d (18 - k))) 18 _ (by omega) (fun f k hk => ?_) (fun f => ?_)
  · show f_X6_wet_l134 s1 (nI t) s3 s5 s6 s8 kx (f + 1) (nI (18 - k) + (-1 : Int32)) (WH h 11 18 t d (18 - k)) = f_X6_wet_l134 s1 (nI t) s3 s5 s6 s8 kx f (nI (18 - (k + 1)) + (-1 : Int32)) (WH h 11 18 t d (18 - (k + 1)))
    obtain ⟨q, hq⟩ : ∃ q, q = 17 - k := ⟨_, rfl⟩
    have hq18 : q < 18 := by omega
    rw [show 18 - k = q + 1 by omega, show 18 - (k + 1) = q by omega, nI_dec, f_X6_wet_l134, if_neg (nI_pos (by omega))]
    have e : (if nI q ≤ 0 then (some (0 : Int64)) else (Option.bind (lald 18 (WH h 11 18 t d (q + 1)) 11 (nI q - (1 : Int32))) fun v18 => some (v18 * (nI t).toInt64))) = some (if q = 0 then (0 : Int64) else nL (chn t d (q - 1)) * nL t) := by
      by_cases h0 : q = 0
      · rw [h0]; rfl
      · rw [if_neg (show ¬ nI q ≤ 0 from nI_ge (a := 0) (by omega) (by omega)), if_neg h0, show nI q - (1 : Int32) = nI (q - 1) from pk_sub (b := 1) (by omega), lald_ok _ _ (show q - 1 < 18 by omega) (by omega), WH_at _ _ _ _ _ (show q - 1 < 18 by omega), if_neg (show ¬ q + 1 ≤ q - 1 by omega)]
        simp only [obs]
        rw [nI_L (by omega)]
    rw [lald_ok _ _ hq18 (by omega), WH_at _ _ _ _ _ hq18, if_neg (show ¬ q + 1 ≤ q by omega), e]
    simp only [obs]
    rw [show (10 : Int32) - nI t = nI (10 - t) from pk_sub (a := 10) ht, nI_L (by omega), chn_step, last_ok _ _ _ hq18 (by omega), WH_s _ _ _ _ _ _ hq18]
    simp only [obs]
  · show f_X6_wet_l134 s1 (nI t) s3 s5 s6 s8 kx (f + 1) (nI (18 - 18) + (-1 : Int32)) (WH h 11 18 t d (18 - 18)) = _
    rw [Nat.sub_self, f_X6_wet_l134, if_pos (show nI 0 + (-1 : Int32) < 0 by decide)]
theorem X_fillCh {n t : Nat} (hn : n ≤ 16) (ht : t ≤ 10) (h : Hp) : f_X5_fillChances (nI n) (nI t) h = some (WH h 40 17 t n 17) := by
  rw [f_X5_fillChances, X_fillL]
  simp only [obs]
  rw [if_neg (show ¬ (17 : Int32) ≤ 0 by decide), show last 17 (LF h 40 17) 40 (0 : Int32) (1 : Int64) = some (lp (LF h 40 17) 40 0 1) from last_ok (i := 0) _ _ _ (by omega) (by omega), LF_1 h 40 17 t (by omega)]
  simp only [obs]
  refine loop_FU (fun f (q : Int32 × Hp) => f_X5_fillChances_l25 (nI n) (nI t) (fun (w14 : Int32) (h15 : Hp) => some h15) f q.1 q.2) (fun k => (nI (k + 1), WH h 40 17 t k 17)) n _ (by omega) (fun f k hk => ?_) (fun f => ?_)
  · show f_X5_fillChances_l25 (nI n) (nI t) (fun (w14 : Int32) (h15 : Hp) => some h15) (f + 1) (nI (k + 1)) (WH h 40 17 t k 17) = f_X5_fillChances_l25 (nI n) (nI t) (fun (w14 : Int32) (h15 : Hp) => some h15) f (nI (k + 1 + 1)) (WH h 40 17 t (k + 1) 17)
    rw [f_X5_fillChances_l25, if_neg (nI_nlt (by omega) (by omega))]
    simp only [obs]
    rw [show (17 : Int32) - (1 : Int32) = nI 17 + (-1 : Int32) by decide, X_l39 ht, nI_succ', WH_n]
  · show f_X5_fillChances_l25 (nI n) (nI t) (fun (w14 : Int32) (h15 : Hp) => some h15) (f + 1) (nI (n + 1)) (WH h 40 17 t n 17) = _
    rw [f_X5_fillChances_l25, if_pos (nI_lt (by omega) (by omega))]
theorem M_l83 {T : Type} (t : Nat) (s1 s2 s3 s5 : Int32) (s6 : Int64) (h : Hp) (kx : Int32 → Hp → Option T) : f_X6_wet_l83 s1 s2 s3 s5 s6 kx FU 0 h = kx (nI 18) (WH h 11 18 t 0 18) := by
  have key := loop_FU (fun f (q : Int32 × Hp) => f_X6_wet_l83 s1 s2 s3 s5 s6 kx f q.1 q.2) (fun k => (nI k, WF h 11 t k)) 18 (kx (nI 18) (WF h 11 t 18)) (by omega) (fun f k hk => by
      show f_X6_wet_l83 s1 s2 s3 s5 s6 kx (f + 1) (nI k) (WF h 11 t k) = f_X6_wet_l83 s1 s2 s3 s5 s6 kx f (nI (k + 1)) (WF h 11 t (k + 1))
      have e : (if nI k = 0 then (some (1 : Int64)) else (some (0 : Int64))) = some (nL (chn t 0 k)) := by
        rw [chn_z]
        by_cases h0 : k = 0
        · rw [h0]; rfl
        · rw [if_neg (nzn (show k < 2 ^ 31 by omega) h0), if_neg h0]
          rfl
      rw [f_X6_wet_l83, if_neg (g18 hk), e]
      simp only [obs]
      rw [last_ok _ _ _ hk (by omega), WF_s]
      simp only [obs]
      rw [nI_succ'])
    (fun f => by
      show f_X6_wet_l83 s1 s2 s3 s5 s6 kx (f + 1) (nI 18) (WF h 11 t 18) = _
      rw [f_X6_wet_l83, if_pos e18])
  dsimp only at key
  rw [WF_0, WF_n] at key
  exact key
theorem M_l116 {T : Type} {n t : Nat} (hn : n ≤ 16) (ht : t ≤ 10) (s3 s5 : Int32) (h : Hp) (kx : Int64 → Int32 → Hp → Option T) : f_X6_wet_l116 (nI n) (nI t) s3 s5 kx FU 1 0 (WH h 11 18 t 0 18) = kx (nL (10 ^ n)) (nI n) (WH h 11 18 t n 18) := by
  refine loop_FU (fun f (q : Int64 × Int32 × Hp) => f_X6_wet_l116 (nI n) (nI t) s3 s5 kx f q.1 q.2.1 q.2.2) (fun k => (nL (10 ^ k), nI k, WH h 11 18 t k 18)) n _ (by omega) (fun f k hk => ?_) (fun f => ?_)
  · show f_X6_wet_l116 (nI n) (nI t) s3 s5 kx (f + 1) (nL (10 ^ k)) (nI k) (WH h 11 18 t k 18) = f_X6_wet_l116 (nI n) (nI t) s3 s5 kx f (nL (10 ^ (k + 1))) (nI (k + 1)) (WH h 11 18 t (k + 1) 18)
    rw [f_X6_wet_l116, if_neg (nI_ge hk (by omega)), show nL (10 ^ k) * (10 : Int64) = nL (10 ^ (k + 1)) from nL_mul _ 10]
    simp only [obs]
    rw [show (17 : Int32) = nI 18 + (-1 : Int32) by decide, M_l134 ht, nI_succ', WH_n]
  · show f_X6_wet_l116 (nI n) (nI t) s3 s5 kx (f + 1) (nL (10 ^ n)) (nI n) (WH h 11 18 t n 18) = _
    rw [f_X6_wet_l116, if_pos (nI_le (Nat.le_refl n) (by omega))]
theorem X_l92 {T : Type} {n t g : Nat} (hn : n ≤ 16) (hg : g ≤ 40) (s5 : Int32) (h : Hp) (kx : Int64 → Int32 → Option T) : f_X5_wet_l92 (nI n) (nI g) s5 (WH h 40 17 t n 17) kx FU 0 0 = kx (nL (upn n t g (n + 1))) (nI (n + 1)) := by
  refine loop_FU (fun f (q : Int64 × Int32) => f_X5_wet_l92 (nI n) (nI g) s5 (WH h 40 17 t n 17) kx f q.1 q.2) (fun k => (nL (upn n t g k), nI k)) (n + 1) _ (by omega) (fun f k hk => ?_) (fun f => ?_)
  · show f_X5_wet_l92 (nI n) (nI g) s5 (WH h 40 17 t n 17) kx (f + 1) (nL (upn n t g k)) (nI k) = f_X5_wet_l92 (nI n) (nI g) s5 (WH h 40 17 t n 17) kx f (nL (upn n t g k + (if n + k < g then 0 else chn t n k))) (nI (k + 1))
    rw [f_X5_wet_l92, if_neg (nI_nlt (by omega) (by omega)), if_neg (show ¬ (17 : Int32) ≤ nI k from nI_ge (b := 17) (by omega) (by omega)), show nI n + nI k = nI (n + k) from nI_add n k]
    by_cases hc : n + k < g
    · rw [if_pos (nI_lt hc (by omega)), if_pos hc]
      simp only [obs]
      rw [nI_succ', Nat.add_zero (upn n t g k)]
    · rw [if_neg (nI_nlt (by omega) (by omega)), if_neg hc, lald_ok _ _ (show k < 17 by omega) (by omega), WH_at _ _ _ _ _ (show k < 17 by omega), if_neg (show ¬ 17 ≤ k by omega)]
      simp only [obs]
      rw [nL_add, nI_succ']
  · show f_X5_wet_l92 (nI n) (nI g) s5 (WH h 40 17 t n 17) kx (f + 1) (nL (upn n t g (n + 1))) (nI (n + 1)) = _
    rw [f_X5_wet_l92, if_pos (nI_lt (by omega) (by omega))]
theorem M_l199 {T : Type} {n t g : Nat} (hn : n ≤ 16) (hg : g ≤ 40) (s5 : Int32) (s6 : Int64) (h : Hp) (kx : Int64 → Int32 → Option T) : f_X6_wet_l199 (nI n) (nI g) s5 s6 (WH h 11 18 t n 18) kx FU 0 0 = kx (nL (upn n t g (n + 1))) (nI 18) := by
  have e18' : upn n t g 18 = upn n t g (n + 1) := by
    rw [show 18 = n + 1 + (17 - n) by omega]
    exact upn_past n t g _
  rw [← e18']
  refine loop_FU (fun f (q : Int64 × Int32) => f_X6_wet_l199 (nI n) (nI g) s5 s6 (WH h 11 18 t n 18) kx f q.1 q.2) (fun k => (nL (upn n t g k), nI k)) 18 _ (by omega) (fun f k hk => ?_) (fun f => ?_)
  · show f_X6_wet_l199 (nI n) (nI g) s5 s6 (WH h 11 18 t n 18) kx (f + 1) (nL (upn n t g k)) (nI k) = f_X6_wet_l199 (nI n) (nI g) s5 s6 (WH h 11 18 t n 18) kx f (nL (upn n t g k + (if n + k < g then 0 else chn t n k))) (nI (k + 1))
    rw [f_X6_wet_l199, if_neg (g18 hk), show nI n + nI k = nI (n + k) from nI_add n k]
    by_cases hc : n + k < g
    · rw [if_pos (nI_lt hc (by omega)), if_pos hc]
      simp only [obs]
      rw [show (0 : Int64) = nL 0 from rfl, nL_add, nI_succ']
    · rw [if_neg (nI_nlt (by omega) (by omega)), if_neg hc, lald_ok _ _ hk (by omega), WH_at _ _ _ _ _ hk, if_neg (show ¬ 18 ≤ k by omega)]
      simp only [obs]
      rw [nL_add, nI_succ']
  · show f_X6_wet_l199 (nI n) (nI g) s5 s6 (WH h 11 18 t n 18) kx (f + 1) (nL (upn n t g 18)) (nI 18) = _
    rw [f_X6_wet_l199, if_pos e18]
theorem X_pow16 {n : Nat} (hn : n ≤ 16) : f_X5_powerOfTen (nI n) = some (nL (10 ^ n)) := by
  rw [f_X5_powerOfTen]
  refine loop_FU (fun f (q : Int64 × Int32) => f_X5_powerOfTen_l4 (nI n) (fun (w3 : Int64) (w4 : Int32) => some w3) f q.1 q.2) (fun j => (nL (10 ^ j), nI j)) n _ (by omega) (fun f j hj => ?_) (fun f => ?_)
  · show f_X5_powerOfTen_l4 (nI n) _ (f + 1) (nL (10 ^ j)) (nI j) = f_X5_powerOfTen_l4 (nI n) _ f (nL (10 ^ (j + 1))) (nI (j + 1))
    rw [f_X5_powerOfTen_l4, if_neg (nI_ge hj (by omega)), show nL (10 ^ j) * (10 : Int64) = nL (10 ^ (j + 1)) from nL_mul _ 10]
    simp only [obs]
    rw [nI_succ']
  · show f_X5_powerOfTen_l4 (nI n) _ (f + 1) _ (nI n) = _
    rw [f_X5_powerOfTen_l4, if_pos (nI_le (Nat.le_refl n) (by omega))]
theorem low_two {a b : Nat} (ha : a < 2 ^ 62) (h0 : 0 < b) (hb : b < 2 ^ 62) {w : Nat} (hw : w ≤ 1) : ∃ r, f_X5_lowestTerms (nL a) (nL b) (nI w) = some r ∧ f_X6_lowest (nL a) (nL b) (nI w) = some r := by
  have hg := Nat.gcd_pos_of_pos_right a h0
  have hgl : Nat.gcd a b ≤ b := Nat.gcd_le_right a h0
  have e1 : f_X5_commonDivisor (nL a) (nL b) = some (nL (Nat.gcd a b)) := by
    rw [f_X5_commonDivisor]
    exact X_gcd 62 a b 0 FU ha hb hb (by omega) (by rw [FU_eq]; omega)
  have e2 : f_X6_lowest (nL a) (nL b) (nI w) = (if nI w = 0 then ldv (nL a) (nL (Nat.gcd a b)) else ldv (nL b) (nL (Nat.gcd a b))) := by
    rw [f_X6_lowest]
    refine (M_gcd (nL a) (nL b) (nI w) _ 62 a b FU ha hb hb (by rw [FU_eq]; omega)).trans ?_
    rw [ldv_nL (by omega) (by omega) hg, ldv_nL (a := b) (by omega) (by omega) hg]
    simp only [obs]
  have hle : ¬ lg_cmp (nL (Nat.gcd a b)) 0 ≤ 0 := fun q => by
    have := (cmp_le (b := 0) (by omega) (by omega)).mp q
    omega
  rw [f_X5_lowestTerms, e1, e2]
  simp only [obs]
  by_cases h0 : w = 0
  · subst h0
    rw [if_pos (show nI 0 = 0 from rfl), if_pos (show nI 0 = 0 from rfl)]
    simp only [obs]
    rw [if_neg hle, ldv_nL (by omega) (by omega) hg]
    exact ⟨_, rfl, rfl⟩
  · rw [if_neg (nzn (show w < 2 ^ 31 by omega) h0), if_neg (nzn (show w < 2 ^ 31 by omega) h0)]
    simp only [obs]
    rw [if_neg hle, ldv_nL (a := b) (by omega) (by omega) hg]
    exact ⟨_, rfl, rfl⟩
theorem r_wet : op_wet Rl := by
  intro hx hm x1 x2 x3 x4 x5 hr
  rw [f_X5_wet, f_X6_wet, wi_eq, wi_eq, wi_eq, wi_eq, wi_eq]
  rcases in_cases x1 0 16 (by omega) (by omega) with ⟨e, -⟩ | ⟨n, -, hn, rfl, e⟩
  · rw [show f_X6_in x1 (0 : Int32) (16 : Int32) = some 0 from e]
    exact ⟨-1000000000000000002, hx, hm, rfl, rfl, hr⟩
  rw [show f_X6_in (nI n) (0 : Int32) (16 : Int32) = some 1 from e]
  simp only [obs, if_neg one_ne]
  rcases in_cases x2 0 10 (by omega) (by omega) with ⟨e2, -⟩ | ⟨t, -, ht, rfl, e2⟩
  · rw [show f_X6_in x2 (0 : Int32) (10 : Int32) = some 0 from e2]
    exact ⟨-1000000000000000002, hx, hm, rfl, rfl, hr⟩
  rw [show f_X6_in (nI t) (0 : Int32) (10 : Int32) = some 1 from e2]
  simp only [obs, if_neg one_ne]
  rcases in_cases x3 0 40 (by omega) (by omega) with ⟨e3, -⟩ | ⟨g, -, hg, rfl, e3⟩
  · rw [show f_X6_in x3 (0 : Int32) (40 : Int32) = some 0 from e3]
    exact ⟨-1000000000000000002, hx, hm, rfl, rfl, hr⟩
  rw [show f_X6_in (nI g) (0 : Int32) (40 : Int32) = some 1 from e3]
  simp only [obs, if_neg one_ne]
  rcases in_cases x4 0 1 (by omega) (by omega) with ⟨e4, -⟩ | ⟨w, -, hw, rfl, e4⟩
  · rw [show f_X6_in x4 (0 : Int32) (1 : Int32) = some 0 from e4]
    exact ⟨-1000000000000000002, hx, hm, rfl, rfl, hr⟩
  rw [show f_X6_in (nI w) (0 : Int32) (1 : Int32) = some 1 from e4]
  simp only [obs, if_neg one_ne]
  rcases in_cases x5 0 1 (by omega) (by omega) with ⟨e5, -⟩ | ⟨p, -, hp, rfl, e5⟩
  · rw [show f_X6_in x5 (0 : Int32) (1 : Int32) = some 0 from e5]
    exact ⟨-1000000000000000002, hx, hm, rfl, rfl, hr⟩
  rw [show f_X6_in (nI p) (0 : Int32) (1 : Int32) = some 1 from e5]
  simp only [obs, if_neg one_ne]
  have h10 : 10 ^ n ≤ 10 ^ 16 := Nat.pow_le_pow_right (by omega) hn
  have h10p : 0 < 10 ^ n := Nat.pow_pos (by omega)
  have hw2 : w = 0 ∨ w = 1 := by omega
  rcases hw2 with rfl | rfl
  · rw [if_neg (show ¬ nI 0 = 1 by decide), if_neg (show ¬ nI 0 = 1 by decide), X_fillCh hn ht, M_l83 t]
    simp only [obs]
    rw [X_l92 hn hg, M_l116 hn ht]
    rw [M_l199 hn hg, X_pow16 hn]
    simp only [obs]
    have hu := upn_le (n := n) (g := g) ht n
    obtain ⟨v, v1, v2⟩ := low_two (a := upn n t g (n + 1)) (b := 10 ^ n) (by omega) h10p (by omega) hp
    rw [v1, v2]
    exact ⟨v, _, _, rfl, rfl, hr.frame (fun r _ => rfl) ⟨fun r _ => rfl, fun j _ => rfl⟩⟩
  · rw [if_pos (show nI 1 = 1 from rfl), if_pos (show nI 1 = 1 from rfl), show (10 : Int32) + nI t = nI (10 + t) from nI_add 10 t, pk_mul]
    have hb : n * (10 + t) ≤ 16 * 20 := Nat.mul_le_mul hn (by omega)
    rw [nI_L (by omega), nI_L (by omega), nI_L (by omega), nL_mul]
    obtain ⟨v, v1, v2⟩ := low_two (a := n * (10 + t)) (b := 10) (by omega) (by omega) (by omega) hp
    rw [show f_X5_lowestTerms (nL (n * (10 + t))) (10 : Int64) (nI p) = some v from v1, show f_X6_lowest (nL (n * (10 + t))) (10 : Int64) (nI p) = some v from v2]
    exact ⟨v, hx, hm, rfl, rfl, hr⟩
