/-! STROKES: the walks that go over every open road. -/
def sN (f : Nat → Nat) : Nat → Nat
  | 0 => 0
  | n + 1 => sN f n + f n
theorem sN_congr {f g : Nat → Nat} : ∀ {n : Nat}, (∀ k, k < n → f k = g k) → sN f n = sN g n
  | 0, _ => rfl
  | n + 1, h => by rw [sN, sN, sN_congr (fun k hk => h k (by omega)), h n (by omega)]
theorem sN_le {f : Nat → Nat} {b : Nat} : ∀ {n : Nat}, (∀ k, k < n → f k ≤ b) → sN f n ≤ n * b
  | 0, _ => Nat.zero_le _
  | n + 1, h => by
    have h1 := sN_le (f := f) (b := b) (n := n) (fun k hk => h k (by omega))
    have h2 := h n (by omega)
    rw [sN, Nat.succ_mul]
    omega
theorem sN_zero {f : Nat → Nat} : ∀ {n : Nat}, sN f n = 0 → ∀ k, k < n → f k = 0
  | 0, _, k, hk => absurd hk (by omega)
  | n + 1, h, k, hk => by
    rw [sN] at h
    by_cases e : k = n
    · rw [e]; omega
    · exact sN_zero (n := n) (by omega) k (by omega)
theorem sN_ge {f : Nat → Nat} : ∀ {n k : Nat}, k < n → f k ≤ sN f n
  | 0, k, hk => absurd hk (by omega)
  | n + 1, k, hk => by
    rw [sN]
    by_cases e : k = n
    · rw [e]; omega
    · have := sN_ge (f := f) (n := n) (k := k) (by omega)
      omega
theorem sN_ge2 {f : Nat → Nat} : ∀ {n j k : Nat}, j < n → k < n → j ≠ k → f j + f k ≤ sN f n
  | 0, j, k, hj, hk, hn => absurd hj (by omega)
  | n + 1, j, k, hj, hk, hn => by
    rw [sN]
    by_cases e : k = n
    · have := sN_ge (f := f) (n := n) (k := j) (by omega)
      rw [e]; omega
    · by_cases e2 : j = n
      · have := sN_ge (f := f) (n := n) (k := k) (by omega)
        rw [e2]; omega
      · have := sN_ge2 (f := f) (n := n) (j := j) (k := k) (by omega) (by omega) hn
        omega
theorem sN_add (f g : Nat → Nat) : ∀ n, sN (fun k => f k + g k) n = sN f n + sN g n
  | 0 => rfl
  | n + 1 => by
    rw [sN, sN, sN, sN_add f g n]
    omega
theorem sN_mod (f : Nat → Nat) : ∀ n, sN (fun k => f k % 2) n % 2 = sN f n % 2
  | 0 => rfl
  | n + 1 => by
    have := sN_mod f n
    rw [sN, sN]
    omega
/-- a symmetric table with nothing on its diagonal sums up even -/
theorem shake (a : Nat → Nat → Nat) (hs : ∀ i j, a i j = a j i) (hd : ∀ i, a i i = 0) : ∀ n, sN (fun i => sN (fun j => a i j) n) n % 2 = 0 := by
  intro n
  induction n with
  | zero => rfl
  | succ n ih =>
    have e : sN (fun i => sN (fun j => a i j) (n + 1)) (n + 1) = sN (fun i => sN (fun j => a i j) n) n + sN (fun i => a i n) n + (sN (fun j => a n j) n + a n n) := by
      rw [sN]
      have e1 : sN (fun i => sN (fun j => a i j) (n + 1)) n = sN (fun i => sN (fun j => a i j) n + a i n) n := rfl
      rw [e1, sN_add]
      rfl
    have e2 : sN (fun i => a i n) n = sN (fun j => a n j) n := sN_congr (fun k _ => hs k n)
    rw [e, e2, hd]
    omega
theorem pcn_msk (f : Nat → Bool) : ∀ n, n ≤ 9 → pcn (msk f 9) n = sN (fun k => (f k).toNat) n
  | 0, _ => rfl
  | n + 1, h => by
    rw [pcn, sN, pcn_msk f n (by omega), msk_bit, decide_eq_true (by omega), Bool.true_and]
def degN (g : Nat → Nat → Bool) (v : Nat) : Nat := pcn (msk (g v) 9) 9
def endsN (g : Nat → Nat → Bool) (P : Nat → Bool) (n : Nat) : Nat := sN (fun v => if P v = true then degN g v else 0) n
def oddN (g : Nat → Nat → Bool) (P : Nat → Bool) (n : Nat) : Nat := sN (fun v => if P v = true then degN g v % 2 else 0) n
theorem degN_eq (g : Nat → Nat → Bool) (v : Nat) : degN g v = sN (fun u => (g v u).toNat) 9 := pcn_msk _ 9 (Nat.le_refl _)
theorem degN_le (g : Nat → Nat → Bool) (v : Nat) : degN g v ≤ 9 := by
  rw [degN_eq]
  exact sN_le (b := 1) (fun k _ => by cases g v k <;> decide)
theorem endsN_le (g : Nat → Nat → Bool) (P : Nat → Bool) {n : Nat} (hn : n ≤ 9) : endsN g P n ≤ 81 := by
  have h := sN_le (f := fun v => if P v = true then degN g v else 0) (b := 9) (n := n) (fun k _ => by
    show (if P k = true then degN g k else 0) ≤ 9
    have := degN_le g k
    split <;> omega)
  unfold endsN
  omega
theorem oddN_le (g : Nat → Nat → Bool) (P : Nat → Bool) {n : Nat} (hn : n ≤ 9) : oddN g P n ≤ 9 := by
  have h := sN_le (f := fun v => if P v = true then degN g v % 2 else 0) (b := 1) (n := n) (fun k _ => by
    show (if P k = true then degN g k % 2 else 0) ≤ 1
    split <;> omega)
  unfold oddN
  omega
section STROKES
variable {g : Nat → Nat → Bool} {p : Nat}
theorem odd_even (hs : ∀ i j, i < 9 → j < 9 → g i j = g j i) (hd : ∀ i, i < 9 → g i i = false) (hp : p < 9) : oddN g (rsb g p) 9 % 2 = 0 := by
  have e1 : oddN g (rsb g p) 9 % 2 = endsN g (rsb g p) 9 % 2 := by
    have h := sN_mod (fun v => if rsb g p v = true then degN g v else 0) 9
    unfold endsN oddN
    rw [← h]
    refine congrArg (· % 2) (sN_congr (fun k hk => ?_))
    show (if rsb g p k = true then degN g k % 2 else 0) = (if rsb g p k = true then degN g k else 0) % 2
    split <;> rfl
  have e2 : endsN g (rsb g p) 9 = sN (fun i => sN (fun j => if i < 9 ∧ j < 9 ∧ rsb g p i = true ∧ g i j = true then 1 else 0) 9) 9 := by
    unfold endsN
    refine sN_congr (fun k hk => ?_)
    cases hr : rsb g p k with
    | false =>
      rw [if_neg (by decide)]
      have h0 : ∀ n, sN (fun j => if k < 9 ∧ j < 9 ∧ false = true ∧ g k j = true then 1 else 0) n = 0 := by
        intro n
        induction n with
        | zero => rfl
        | succ n ih => rw [sN, ih, if_neg (by simp)]
      exact (h0 9).symm
    | true =>
      rw [if_pos rfl, degN_eq]
      refine sN_congr (fun j hj => ?_)
      cases hg : g k j with
      | false => rw [if_neg (by simp)]; rfl
      | true => rw [if_pos ⟨hk, hj, rfl, rfl⟩]; rfl
  rw [e1, e2]
  refine shake (fun i j => if i < 9 ∧ j < 9 ∧ rsb g p i = true ∧ g i j = true then 1 else 0) (fun i j => ?_) (fun i => ?_) 9
  · show (if i < 9 ∧ j < 9 ∧ rsb g p i = true ∧ g i j = true then 1 else 0) = (if j < 9 ∧ i < 9 ∧ rsb g p j = true ∧ g j i = true then 1 else 0)
    by_cases h : i < 9 ∧ j < 9 ∧ rsb g p i = true ∧ g i j = true
    · obtain ⟨h1, h2, h3, h4⟩ := h
      rw [if_pos ⟨h1, h2, h3, h4⟩, if_pos ⟨h2, h1, rsb_next g p h1 h2 h3 h4, by rw [← hs i j h1 h2]; exact h4⟩]
    · rw [if_neg h, if_neg]
      rintro ⟨h1, h2, h3, h4⟩
      exact h ⟨h2, h1, rsb_next g p h1 h2 h3 h4, by rw [hs i j h2 h1]; exact h4⟩
  · show (if i < 9 ∧ i < 9 ∧ rsb g p i = true ∧ g i i = true then 1 else 0) = 0
    rw [if_neg]
    rintro ⟨h1, -, -, h4⟩
    rw [hd i h1] at h4
    cases h4
theorem ends_one (hd : ∀ i, i < 9 → g i i = false) (hp : p < 9) : endsN g (rsb g p) 9 = 0 ↔ pcn (msk (rsb g p) 9) 9 = 1 := by
  rw [pcn_msk _ 9 (Nat.le_refl _)]
  have hpp := rsb_self g p
  constructor
  · intro h
    have h0 := sN_zero h p hp
    rw [if_pos hpp, degN_eq] at h0
    have hno : ∀ v, v < 9 → rsb g p v = true → v = p := fun v hv hr => rsb_sub g p (fun v => v = p) rfl (fun u w hu hw hT he => by
      have hT' : u = p := hT
      rw [hT'] at he
      have h1 := sN_zero h0 w hw
      rw [he] at h1
      cases h1) hv hr
    have key : ∀ n, n ≤ 9 → sN (fun k => (rsb g p k).toNat) n = if p < n then 1 else 0 := by
      intro n
      induction n with
      | zero => intro _; rfl
      | succ n ih =>
        intro hn
        rw [sN, ih (by omega)]
        by_cases e : n = p
        · rw [e, hpp, if_neg (by omega), if_pos (by omega)]; rfl
        · have : rsb g p n = false := by
            cases hq : rsb g p n with
            | false => rfl
            | true => exact absurd (hno n (by omega) hq) e
          rw [this]
          by_cases e2 : p < n
          · rw [if_pos e2, if_pos (by omega)]; rfl
          · rw [if_neg e2, if_neg (by omega)]; rfl
    rw [key 9 (Nat.le_refl _), if_pos hp]
  · intro h
    have hno : ∀ v, v < 9 → v ≠ p → rsb g p v = false := by
      intro v hv hn
      cases hq : rsb g p v with
      | false => rfl
      | true =>
        have h2 := sN_ge2 (f := fun k => (rsb g p k).toNat) hv hp hn
        rw [h] at h2
        have h3 : (rsb g p v).toNat + (rsb g p p).toNat ≤ 1 := h2
        rw [hq, hpp] at h3
        exact absurd h3 (by decide)
    have hdeg : ∀ u, u < 9 → g p u = false := by
      intro u hu
      cases hq : g p u with
      | false => rfl
      | true =>
        by_cases e : u = p
        · rw [e, hd p hp] at hq; cases hq
        · have := rsb_next g p hp hu hpp hq
          rw [hno u hu e] at this
          cases this
    have hz : ∀ n, n ≤ 9 → sN (fun v => if rsb g p v = true then degN g v else 0) n = 0 := by
      intro n
      induction n with
      | zero => intro _; rfl
      | succ n ih =>
        intro hn
        rw [sN, ih (by omega)]
        by_cases e : n = p
        · rw [e, if_pos hpp, degN_eq]
          have : ∀ m, m ≤ 9 → sN (fun u => (g p u).toNat) m = 0 := by
            intro m
            induction m with
            | zero => intro _; rfl
            | succ m ihm =>
              intro hm
              rw [sN, ihm (by omega), hdeg m (by omega)]
              rfl
          rw [this 9 (Nat.le_refl _)]
        · rw [if_neg (by rw [hno n (by omega) e]; decide)]
    exact hz 9 (Nat.le_refl _)
end STROKES
