/-! LEAST WAYS, on plain numbers: eight rounds are enough for nine places. -/
def lo (f : Nat → Nat) (b : Nat) : Nat → Nat
  | 0 => b
  | n + 1 => min (lo f b n) (f n)
theorem lo_base (f : Nat → Nat) (b : Nat) : ∀ n, lo f b n ≤ b
  | 0 => Nat.le_refl _
  | n + 1 => Nat.le_trans (Nat.min_le_left _ _) (lo_base f b n)
theorem lo_le (f : Nat → Nat) (b : Nat) : ∀ n i, i < n → lo f b n ≤ f i
  | 0, i, h => absurd h (by omega)
  | n + 1, i, h => by
    rw [lo]
    by_cases e : i = n
    · subst e; exact Nat.min_le_right _ _
    · exact Nat.le_trans (Nat.min_le_left _ _) (lo_le f b n i (by omega))
theorem lo_is (f : Nat → Nat) (b : Nat) : ∀ n, lo f b n = b ∨ ∃ i, i < n ∧ lo f b n = f i
  | 0 => Or.inl rfl
  | n + 1 => by
    rw [lo]
    by_cases e : lo f b n ≤ f n
    · rw [Nat.min_eq_left e]
      rcases lo_is f b n with h | ⟨i, h1, h2⟩
      · exact Or.inl h
      · exact Or.inr ⟨i, by omega, h2⟩
    · rw [Nat.min_eq_right (by omega)]
      exact Or.inr ⟨n, by omega, rfl⟩
theorem lo_ge (f : Nat → Nat) (b x : Nat) (n : Nat) (hb : x ≤ b) (hf : ∀ i, i < n → x ≤ f i) : x ≤ lo f b n := by
  rcases lo_is f b n with h | ⟨i, h1, h2⟩
  · rw [h]; exact hb
  · rw [h2]; exact hf i h1
def jac (c : Nat → Nat → Nat) (D : Nat → Nat) : Nat → Nat → Nat
  | 0, v => D v
  | k + 1, v => lo (fun u => jac c D k u + c u v) (jac c D k v) 9
theorem jac_mono (c : Nat → Nat → Nat) (D : Nat → Nat) (v : Nat) : ∀ k m, k ≤ m → jac c D m v ≤ jac c D k v := by
  intro k m h
  induction m with
  | zero => rw [show k = 0 by omega]; exact Nat.le_refl _
  | succ m ih =>
    by_cases e : k = m + 1
    · rw [e]; exact Nat.le_refl _
    · exact Nat.le_trans (by rw [jac]; exact lo_base _ _ _) (ih (by omega))
theorem pigeon : ∀ (n : Nat) (l : List Nat), l.Nodup → (∀ x, x ∈ l → x < n) → l.length ≤ n := by
  intro n
  induction n with
  | zero =>
    intro l _ h
    cases l with
    | nil => exact Nat.le_refl _
    | cons a l => exact absurd (h a List.mem_cons_self) (by omega)
  | succ n ih =>
    intro l hn h
    by_cases hm : n ∈ l
    · have h1 := ih (l.erase n) (hn.erase n) (fun x hx => by
        have hx' := (List.Nodup.mem_erase_iff hn).mp hx
        have := h x hx'.2
        have := hx'.1
        omega)
      rw [List.length_erase_of_mem hm] at h1
      omega
    · exact Nat.le_trans (ih l hn (fun x hx => by
        have h1 := h x hx
        have h2 : x ≠ n := fun e => hm (e ▸ hx)
        omega)) (by omega)
/-- what still gets better at the k-th step has k + 1 places behind it -/
theorem jac_chain (c : Nat → Nat → Nat) (D : Nat → Nat) : ∀ k v, v < 9 → jac c D (k + 1) v < jac c D k v → ∃ l : List Nat, l.Nodup ∧ l.length = k + 2 ∧ (∀ x, x ∈ l → x < 9) ∧ ∀ u, u ∈ l → ∃ i, i ≤ k + 1 ∧ jac c D i u ≤ jac c D (k + 1) v := by
  intro k
  induction k with
  | zero =>
    intro v hv h
    rcases lo_is (fun u => jac c D 0 u + c u v) (jac c D 0 v) 9 with e | ⟨u, hu, e⟩
    · have e' : jac c D (0 + 1) v = jac c D 0 v := e
      omega
    · have e' : jac c D (0 + 1) v = jac c D 0 u + c u v := e
      have hne : v ≠ u := by
        intro q
        rw [q] at h
        rw [q] at e'
        omega
      refine ⟨[v, u], by simp [hne], rfl, ?_, ?_⟩
      · intro x hx
        simp at hx
        rcases hx with rfl | rfl
        · exact hv
        · exact hu
      · intro x hx
        simp at hx
        rcases hx with rfl | rfl
        · exact ⟨0 + 1, by omega, Nat.le_refl _⟩
        · exact ⟨0, by omega, by omega⟩
  | succ k ih =>
    intro v hv h
    rcases lo_is (fun u => jac c D (k + 1) u + c u v) (jac c D (k + 1) v) 9 with e | ⟨u, hu, e⟩
    · have e' : jac c D (k + 1 + 1) v = jac c D (k + 1) v := e
      omega
    · have e' : jac c D (k + 1 + 1) v = jac c D (k + 1) u + c u v := e
      have hlt : jac c D (k + 1) u < jac c D k u := by
        refine Nat.lt_of_not_le (fun q => ?_)
        have h1 : jac c D (k + 1) v ≤ jac c D k u + c u v := by
          rw [jac]
          exact lo_le (fun u => jac c D k u + c u v) (jac c D k v) 9 u hu
        omega
      obtain ⟨l, l1, l2, l3, l4⟩ := ih u hu hlt
      refine ⟨v :: l, ?_, by simp [l2], ?_, ?_⟩
      · rw [List.nodup_cons]
        refine ⟨fun hm => ?_, l1⟩
        obtain ⟨i, i1, i2⟩ := l4 v hm
        have h3 := jac_mono c D v i (k + 1) i1
        omega
      · intro x hx
        rw [List.mem_cons] at hx
        rcases hx with rfl | hx
        · exact hv
        · exact l3 x hx
      · intro x hx
        rw [List.mem_cons] at hx
        rcases hx with rfl | hx
        · exact ⟨k + 1 + 1, by omega, Nat.le_refl _⟩
        · obtain ⟨i, i1, i2⟩ := l4 x hx
          exact ⟨i, by omega, by omega⟩
theorem jac_stop (c : Nat → Nat → Nat) (D : Nat → Nat) {i j : Nat} (hi : i < 9) (hj : j < 9) : jac c D 8 j ≤ jac c D 8 i + c i j := by
  have h9 : ¬ jac c D (8 + 1) j < jac c D 8 j := by
    intro h
    obtain ⟨l, l1, l2, l3, -⟩ := jac_chain c D 8 j hj h
    have := pigeon 9 l l1 l3
    omega
  have h1 : jac c D (8 + 1) j ≤ jac c D 8 i + c i j := by
    rw [jac]
    exact lo_le (fun u => jac c D 8 u + c u j) (jac c D 8 j) 9 i hi
  omega
/-- one road tried, and all of them in order, over and over -/
def rlx (c : Nat → Nat → Nat) (D : Nat → Nat) (i j : Nat) : Nat → Nat := fun k => if k = j then min (D j) (D i + c i j) else D k
def gs (c : Nat → Nat → Nat) (D : Nat → Nat) : Nat → Nat → Nat
  | 0 => D
  | n + 1 => rlx c (gs c D n) (n / 9 % 9) (n % 9)
theorem rlx_le (c : Nat → Nat → Nat) (D : Nat → Nat) (i j k : Nat) : rlx c D i j k ≤ D k := by
  unfold rlx
  split
  · next h => rw [h]; exact Nat.min_le_left _ _
  · exact Nat.le_refl _
theorem gs_mono (c : Nat → Nat → Nat) (D : Nat → Nat) (v : Nat) : ∀ n m, n ≤ m → gs c D m v ≤ gs c D n v := by
  intro n m h
  induction m with
  | zero => rw [show n = 0 by omega]; exact Nat.le_refl _
  | succ m ih =>
    by_cases e : n = m + 1
    · rw [e]; exact Nat.le_refl _
    · exact Nat.le_trans (rlx_le _ _ _ _ _) (ih (by omega))
theorem gs_ge (c : Nat → Nat → Nat) (D : Nat → Nat) : ∀ n v, v < 9 → jac c D 8 v ≤ gs c D n v := by
  intro n
  induction n with
  | zero => intro v hv; exact jac_mono c D v 0 8 (by omega)
  | succ n ih =>
    intro v hv
    rw [gs]
    unfold rlx
    by_cases e : v = n % 9
    · rw [if_pos e, ← e]
      have h1 := ih v hv
      have h2 := ih (n / 9 % 9) (Nat.mod_lt _ (by omega))
      have h3 := jac_stop c D (i := n / 9 % 9) (j := v) (Nat.mod_lt _ (by omega)) hv
      omega
    · rw [if_neg e]; exact ih v hv
theorem gs_le (c : Nat → Nat → Nat) (D : Nat → Nat) : ∀ k v, v < 9 → gs c D (81 * k) v ≤ jac c D k v := by
  intro k
  induction k with
  | zero => intro v _; exact Nat.le_refl _
  | succ k ih =>
    intro v hv
    rw [jac]
    refine lo_ge _ _ _ _ (Nat.le_trans (gs_mono c D v (81 * k) _ (by omega)) (ih v hv)) (fun u hu => ?_)
    have h1 : gs c D (81 * k + (9 * u + v) + 1) v ≤ gs c D (81 * k + (9 * u + v)) u + c u v := by
      rw [gs]
      have e1 : (81 * k + (9 * u + v)) / 9 % 9 = u := by omega
      have e2 : (81 * k + (9 * u + v)) % 9 = v := by omega
      rw [e1, e2]
      unfold rlx
      rw [if_pos rfl]
      exact Nat.min_le_right _ _
    have h2 := gs_mono c D v (81 * k + (9 * u + v) + 1) (81 * (k + 1)) (by omega)
    have h3 := gs_mono c D u (81 * k) (81 * k + (9 * u + v)) (by omega)
    have h4 := ih u hu
    show _ ≤ jac c D k u + c u v
    omega
theorem gs_stop (c : Nat → Nat → Nat) (D : Nat → Nat) {v : Nat} (hv : v < 9) : gs c D (81 * 9) v = gs c D (81 * 8) v := by
  have h1 := gs_mono c D v (81 * 8) (81 * 9) (by omega)
  have h2 := gs_ge c D (81 * 9) v hv
  have h3 := gs_le c D 8 v hv
  omega
