/-! WHAT IS JOINED: the class's eight rounds and the reference's growing set. -/
def cg (g : Nat → Nat → Bool) (u v : Nat) : Nat := if g u v = true then 0 else 1000000
def rsb (g : Nat → Nat → Bool) (i v : Nat) : Bool := decide (jac (cg g) (d0 i) 8 v < 1000000)
theorem rsb_self (g : Nat → Nat → Bool) (i : Nat) : rsb g i i = true := by
  have h := jac_mono (cg g) (d0 i) i 0 8 (by omega)
  have h2 : jac (cg g) (d0 i) 0 i = 0 := by
    show d0 i i = 0
    unfold d0
    rw [if_pos rfl]
  unfold rsb
  rw [decide_eq_true_iff]
  omega
theorem rsb_next (g : Nat → Nat → Bool) (i : Nat) {u v : Nat} (hu : u < 9) (hv : v < 9) (h : rsb g i u = true) (e : g u v = true) : rsb g i v = true := by
  unfold rsb at h ⊢
  rw [decide_eq_true_iff] at h ⊢
  have h1 := jac_stop (cg g) (d0 i) hu hv
  have h2 : cg g u v = 0 := by unfold cg; rw [if_pos e]
  omega
theorem rsb_least (g : Nat → Nat → Bool) (i : Nat) (T : Nat → Prop) (h0 : T i) (hT : ∀ u v, u < 9 → v < 9 → T u → g u v = true → T v) : ∀ k v, v < 9 → jac (cg g) (d0 i) k v < 1000000 → T v := by
  intro k
  induction k with
  | zero =>
    intro v hv h
    have h2 : d0 i v < 1000000 := h
    unfold d0 at h2
    by_cases e : v = i
    · rw [e]; exact h0
    · rw [if_neg e] at h2; omega
  | succ k ih =>
    intro v hv h
    rcases lo_is (fun u => jac (cg g) (d0 i) k u + cg g u v) (jac (cg g) (d0 i) k v) 9 with e | ⟨u, hu, e⟩
    · have e' : jac (cg g) (d0 i) (k + 1) v = jac (cg g) (d0 i) k v := e
      exact ih v hv (by omega)
    · have e' : jac (cg g) (d0 i) (k + 1) v = jac (cg g) (d0 i) k u + cg g u v := e
      have hg : g u v = true := by
        cases hq : g u v with
        | true => rfl
        | false =>
          have : cg g u v = 1000000 := by unfold cg; rw [hq, if_neg (by decide)]
          omega
      exact hT u v hu hv (ih u hu (by omega)) hg
theorem rsb_sub (g : Nat → Nat → Bool) (i : Nat) (T : Nat → Prop) (h0 : T i) (hT : ∀ u v, u < 9 → v < 9 → T u → g u v = true → T v) {v : Nat} (hv : v < 9) (h : rsb g i v = true) : T v := by
  unfold rsb at h
  rw [decide_eq_true_iff] at h
  exact rsb_least g i T h0 hT 8 v hv h
theorem msk_is {m : Nat} (hm : m < 512) {f : Nat → Bool} (h : ∀ v, v < 9 → m.testBit v = f v) : m = msk f 9 := by
  apply Nat.eq_of_testBit_eq
  intro v
  rw [msk_bit]
  by_cases hv : v < 9
  · rw [h v hv]; simp [hv]
  · rw [Nat.testBit_lt_two_pow (Nat.lt_of_lt_of_le hm (show 2 ^ 9 ≤ 2 ^ v from Nat.pow_le_pow_right (by omega) (by omega)))]
    simp [hv]
/-- the class's rounds -/
def xr (g : Nat → Nat → Bool) (i b : Nat) : Nat → Nat
  | 0 => b
  | n + 1 => if n % 9 = i then xr g i b n else if (xr g i b n).testBit (n % 9) = true then xr g i b n ||| msk (g (n % 9)) 9 else xr g i b n
theorem xr_lt {g : Nat → Nat → Bool} {i b : Nat} (hb : b < 512) : ∀ n, xr g i b n < 512 := by
  intro n
  induction n with
  | zero => exact hb
  | succ n ih =>
    rw [xr]
    split
    · exact ih
    · split
      · exact Nat.or_lt_two_pow (n := 9) ih (msk_lt _ 9)
      · exact ih
theorem xr_keep {g : Nat → Nat → Bool} {i b : Nat} (v : Nat) : ∀ n m, n ≤ m → (xr g i b n).testBit v = true → (xr g i b m).testBit v = true := by
  intro n m h
  induction m with
  | zero => rw [show n = 0 by omega]; exact id
  | succ m ih =>
    intro hv
    by_cases e : n = m + 1
    · rw [← e]; exact hv
    · have := ih (by omega) hv
      rw [xr]
      split
      · exact this
      · split
        · rw [Nat.testBit_or, this]; rfl
        · exact this
theorem xr_sub {g g' : Nat → Nat → Bool} {i b : Nat} (hg : ∀ u v, u ≠ i → g u v = g' u v) (hb : ∀ v, v < 9 → b.testBit v = true → rsb g' i v = true) : ∀ n v, v < 9 → (xr g i b n).testBit v = true → rsb g' i v = true := by
  intro n
  induction n with
  | zero => exact hb
  | succ n ih =>
    intro v hv h
    rw [xr] at h
    by_cases e : n % 9 = i
    · rw [if_pos e] at h; exact ih v hv h
    · rw [if_neg e] at h
      cases hq : (xr g i b n).testBit (n % 9) with
      | false => rw [hq, if_neg (by decide)] at h; exact ih v hv h
      | true =>
        rw [hq, if_pos rfl, Nat.testBit_or, msk_bit] at h
        cases hv2 : (xr g i b n).testBit v with
        | true => exact ih v hv hv2
        | false =>
          rw [hv2] at h
          have hgg : g (n % 9) v = true := by simpa [hv] using h
          exact rsb_next g' i (Nat.mod_lt _ (by omega)) hv (ih _ (Nat.mod_lt _ (by omega)) hq) (by rw [← hg _ _ e]; exact hgg)
theorem xr_sup {g g' : Nat → Nat → Bool} {i b : Nat} (hg : ∀ u v, u ≠ i → g u v = g' u v) (hbi : b.testBit i = true) (hb : ∀ v, v < 9 → g' i v = true → b.testBit v = true) : ∀ k v, v < 9 → jac (cg g') (d0 i) k v < 1000000 → (xr g i b (9 * k)).testBit v = true := by
  intro k
  induction k with
  | zero =>
    intro v hv h
    have h2 : d0 i v < 1000000 := h
    unfold d0 at h2
    by_cases e : v = i
    · rw [e]; exact hbi
    · rw [if_neg e] at h2; omega
  | succ k ih =>
    intro v hv h
    rcases lo_is (fun u => jac (cg g') (d0 i) k u + cg g' u v) (jac (cg g') (d0 i) k v) 9 with e | ⟨u, hu, e⟩
    · have e' : jac (cg g') (d0 i) (k + 1) v = jac (cg g') (d0 i) k v := e
      exact xr_keep v (9 * k) _ (by omega) (ih v hv (by omega))
    · have e' : jac (cg g') (d0 i) (k + 1) v = jac (cg g') (d0 i) k u + cg g' u v := e
      have hgv : g' u v = true := by
        cases hq : g' u v with
        | true => rfl
        | false =>
          have : cg g' u v = 1000000 := by unfold cg; rw [hq, if_neg (by decide)]
          omega
      by_cases eu : u = i
      · rw [eu] at hgv
        exact xr_keep v 0 _ (by omega) (hb v hv hgv)
      · have h1 := xr_keep u (9 * k) (9 * k + u) (by omega) (ih u hu (by omega))
        refine xr_keep v (9 * k + u + 1) _ (by omega) ?_
        rw [xr, show (9 * k + u) % 9 = u by omega, if_neg eu, if_pos h1, Nat.testBit_or, msk_bit, hg _ _ eu, hgv]
        simp [hv]
theorem xr_is {g g' : Nat → Nat → Bool} {i b : Nat} (hi : i < 9) (hb5 : b < 512) (hg : ∀ u v, u ≠ i → g u v = g' u v) (hb : ∀ v, v < 9 → b.testBit v = (decide (v = i) || g' i v)) : xr g i b (9 * 8) = msk (rsb g' i) 9 := by
  refine msk_is (xr_lt hb5 _) (fun v hv => ?_)
  have h1 : ∀ v, v < 9 → b.testBit v = true → rsb g' i v = true := by
    intro v hv h
    rw [hb v hv] at h
    by_cases e : v = i
    · rw [e]; exact rsb_self _ _
    · have hgv : g' i v = true := by simpa [e] using h
      exact rsb_next g' i hi hv (rsb_self _ _) hgv
  cases hr : rsb g' i v with
  | true =>
    refine xr_sup hg (by rw [hb i hi]; simp) (fun v hv h => by rw [hb v hv, h]; simp) 8 v hv ?_
    unfold rsb at hr
    rw [decide_eq_true_iff] at hr
    exact hr
  | false =>
    cases hq : (xr g i b (9 * 8)).testBit v with
    | false => rfl
    | true =>
      have := xr_sub hg h1 _ v hv hq
      rw [hr] at this
      cases this
/-- the reference's growing -/
def cl (g : Nat → Nat → Bool) (m : Nat) : Nat → Nat
  | 0 => m
  | k + 1 => cl g m k ||| (if m.testBit k = true then msk (g k) 9 else 0)
theorem cl_lt {g : Nat → Nat → Bool} {m : Nat} (hm : m < 512) : ∀ n, cl g m n < 512 := by
  intro n
  induction n with
  | zero => exact hm
  | succ n ih =>
    rw [cl]
    refine Nat.or_lt_two_pow (n := 9) ih ?_
    split
    · exact msk_lt _ 9
    · omega
theorem cl_bit (g : Nat → Nat → Bool) (m v : Nat) (hv : v < 9) : ∀ n, (cl g m n).testBit v = true ↔ (m.testBit v = true ∨ ∃ u, u < n ∧ m.testBit u = true ∧ g u v = true) := by
  intro n
  induction n with
  | zero => exact ⟨Or.inl, fun h => h.elim id (fun ⟨u, hu, _⟩ => absurd hu (by omega))⟩
  | succ n ih =>
    rw [cl, Nat.testBit_or, Bool.or_eq_true, ih]
    constructor
    · rintro ((h | ⟨u, h1, h2⟩) | h)
      · exact Or.inl h
      · exact Or.inr ⟨u, by omega, h2⟩
      · by_cases e : m.testBit n = true
        · rw [if_pos e, msk_bit] at h
          exact Or.inr ⟨n, by omega, e, by simpa [hv] using h⟩
        · rw [if_neg e] at h; simp at h
    · rintro (h | ⟨u, h1, h2, h3⟩)
      · exact Or.inl (Or.inl h)
      · by_cases e : u = n
        · subst e
          rw [if_pos h2, msk_bit]
          exact Or.inr (by simpa [hv] using h3)
        · exact Or.inl (Or.inr ⟨u, by omega, h2, h3⟩)
theorem cl_ge (g : Nat → Nat → Bool) (m : Nat) : ∀ n, m ≤ cl g m n := by
  intro n
  induction n with
  | zero => exact Nat.le_refl _
  | succ n ih => exact Nat.le_trans ih Nat.left_le_or
