/-! MENDED: what both sides tell, as one thing. -/
theorem msk_val (f : Nat → Bool) (n : Nat) : msk f (n + 1) = msk f n + (if f n = true then 2 ^ n else 0) := by
  rw [msk]
  cases hf : f n with
  | false =>
    show msk f n ||| 0 = msk f n + 0
    rw [Nat.or_zero, Nat.add_zero]
  | true =>
    have h := Nat.two_pow_add_eq_or_of_lt (msk_lt f n) 1
    rw [Nat.mul_one] at h
    show msk f n ||| 2 ^ n = msk f n + 2 ^ n
    rw [Nat.or_comm, ← h, Nat.add_comm]
theorem msk_add (f g : Nat → Bool) : ∀ n, (∀ k, k < n → f k = true → g k = false) → msk f n + msk g n = msk (fun k => f k || g k) n
  | 0, _ => rfl
  | n + 1, h => by
    have ih := msk_add f g n (fun k hk => h k (by omega))
    have hn := h n (by omega)
    rw [msk_val, msk_val, msk_val, ← ih]
    cases hf : f n with
    | false => simp; omega
    | true => rw [hn hf]; simp; omega
theorem msk_own {s n : Nat} (hs : s < 2 ^ n) : msk (fun i => s.testBit i) n = s := by
  apply Nat.eq_of_testBit_eq
  intro i
  rw [msk_bit]
  by_cases hi : i < n
  · rw [decide_eq_true hi, Bool.true_and]
  · rw [decide_eq_false hi, Bool.false_and, Nat.testBit_lt_two_pow (Nat.lt_of_lt_of_le hs (Nat.pow_le_pow_right (by omega) (by omega)))]
theorem sub_bit {u s i : Nat} (h : u &&& s = u) (hi : u.testBit i = true) : s.testBit i = true := by
  have h2 := congrArg (fun x => Nat.testBit x i) h
  simp only [Nat.testBit_and] at h2
  rw [hi, Bool.true_and] at h2
  exact h2
theorem sub_le {u s : Nat} (h : u &&& s = u) : u ≤ s := by
  have := Nat.and_le_right (n := u) (m := s)
  omega
/-- what is left when a part of a set is taken -/
theorem sub_rest {u s n : Nat} (hs : s < 2 ^ n) (h : u &&& s = u) : s - u = msk (fun i => s.testBit i && !u.testBit i) n := by
  have hu : u < 2 ^ n := Nat.lt_of_le_of_lt (sub_le h) hs
  have h1 := msk_add (fun i => u.testBit i) (fun i => s.testBit i && !u.testBit i) n (fun k _ hk => by
    show (s.testBit k && !u.testBit k) = false
    rw [show u.testBit k = true from hk]
    simp)
  have h2 : msk (fun k => u.testBit k || (s.testBit k && !u.testBit k)) n = s := by
    refine Eq.trans (msk_congr (fun k _ => ?_)) (msk_own hs)
    show (u.testBit k || (s.testBit k && !u.testBit k)) = s.testBit k
    cases hk : u.testBit k with
    | false => simp
    | true => simp [sub_bit h hk]
  rw [msk_own hu] at h1
  have h3 := h1.trans h2
  omega
theorem sub_restb {u s i : Nat} (hs : s < 2 ^ 8) (h : u &&& s = u) (hi : i < 8) : (s - u).testBit i = (s.testBit i && !u.testBit i) := by
  rw [sub_rest hs h, msk_bit, decide_eq_true hi, Bool.true_and]
/-- the roads of P can go to k hands, none of which has more than v days -/
def Div (D : Nat → Nat) (k : Nat) (P : Nat → Bool) (v : Nat) : Prop := ∃ f : Nat → Nat, (∀ i, i < 8 → P i = true → f i < k) ∧ ∀ j, j < k → sN (fun i => if P i = true ∧ f i = j then D i else 0) 8 ≤ v
def ldN (D : Nat → Nat) (s : Nat) : Nat := sN (fun i => if s.testBit i = true then D i else 0) 8
def gmn (L F : Nat → Nat) (s : Nat) : Nat → Nat
  | 0 => F s
  | g + 1 => if (g + 1) &&& s = g + 1 then min (gmn L F s g) (max (L (g + 1)) (F (s - (g + 1)))) else gmn L F s g
def fwN (L : Nat → Nat) : Nat → Nat → Nat
  | 0 => L
  | k + 1 => fun s => gmn L (fwN L k) s s
theorem fwN_s (L : Nat → Nat) (k s : Nat) : fwN L (k + 1) s = gmn L (fwN L k) s s := by rw [fwN]
theorem fwN_0 (L : Nat → Nat) (k : Nat) : fwN L (k + 1) 0 = fwN L k 0 := by rw [fwN_s, gmn]
theorem gmn_le {L F : Nat → Nat} {s v : Nat} (h0 : L 0 = 0) : ∀ g, gmn L F s g ≤ v ↔ ∃ u, u ≤ g ∧ u &&& s = u ∧ L u ≤ v ∧ F (s - u) ≤ v
  | 0 => by
    rw [gmn]
    constructor
    · intro h
      exact ⟨0, Nat.le_refl _, Nat.zero_and s, by omega, h⟩
    · rintro ⟨u, h1, h2, h3, h4⟩
      have : u = 0 := by omega
      subst this
      exact h4
  | g + 1 => by
    have ih := gmn_le (L := L) (F := F) (s := s) (v := v) h0 g
    rw [gmn]
    by_cases hc : (g + 1) &&& s = g + 1
    · rw [if_pos hc]
      constructor
      · intro h
        by_cases h1 : gmn L F s g ≤ v
        · obtain ⟨u, u1, u2⟩ := ih.mp h1
          exact ⟨u, by omega, u2⟩
        · exact ⟨g + 1, Nat.le_refl _, hc, by omega, by omega⟩
      · rintro ⟨u, u1, u2, u3, u4⟩
        by_cases hu : u = g + 1
        · subst hu
          omega
        · have := ih.mpr ⟨u, by omega, u2, u3, u4⟩
          omega
    · rw [if_neg hc, ih]
      constructor
      · rintro ⟨u, u1, u2⟩
        exact ⟨u, by omega, u2⟩
      · rintro ⟨u, u1, u2, u3⟩
        refine ⟨u, ?_, u2, u3⟩
        by_cases hu : u = g + 1
        · subst hu
          exact absurd u2 hc
        · omega
theorem ldN_0 (D : Nat → Nat) : ldN D 0 = 0 := by
  unfold ldN
  exact sN_of0 (fun k _ => by
    show (if Nat.testBit 0 k = true then D k else 0) = 0
    rw [Nat.zero_testBit]
    rfl)
theorem fw_div (D : Nat → Nat) : ∀ k s v, s < 2 ^ 8 → (fwN (ldN D) k s ≤ v ↔ Div D (k + 1) (fun i => s.testBit i) v)
  | 0, s, v, _ => by
    have e : ∀ f : Nat → Nat, (∀ i, i < 8 → s.testBit i = true → f i < 1) → sN (fun i => if s.testBit i = true ∧ f i = 0 then D i else 0) 8 = ldN D s := fun f hf => by
      unfold ldN
      refine sN_congr (fun i hi => ?_)
      show (if s.testBit i = true ∧ f i = 0 then D i else 0) = (if s.testBit i = true then D i else 0)
      by_cases hb : s.testBit i = true
      · have := hf i hi hb
        rw [if_pos ⟨hb, by omega⟩, if_pos hb]
      · rw [if_neg (fun q => hb q.1), if_neg hb]
    show ldN D s ≤ v ↔ _
    constructor
    · intro h
      refine ⟨fun _ => 0, fun i _ _ => Nat.zero_lt_one, fun j hj => ?_⟩
      have hj0 : j = 0 := by omega
      subst hj0
      have h2 := e (fun _ => 0) (fun i _ _ => Nat.zero_lt_one)
      exact Nat.le_trans (Nat.le_of_eq h2) h
    · rintro ⟨f, h1, h2⟩
      rw [← e f h1]
      exact h2 0 (by omega)
  | k + 1, s, v, hs => by
    rw [fwN_s, gmn_le (ldN_0 D)]
    constructor
    · rintro ⟨u, u1, u2, u3, u4⟩
      obtain ⟨f, f1, f2⟩ := (fw_div D k (s - u) v (by omega)).mp u4
      refine ⟨fun i => if u.testBit i = true then k + 1 else f i, fun i hi hp => ?_, fun j hj => ?_⟩
      · show (if u.testBit i = true then k + 1 else f i) < k + 1 + 1
        by_cases hu : u.testBit i = true
        · rw [if_pos hu]; omega
        · rw [if_neg hu]
          have := f1 i hi (by
            show (s - u).testBit i = true
            rw [sub_restb hs u2 hi, show s.testBit i = true from hp]
            simp [hu])
          omega
      · by_cases hj1 : j = k + 1
        · refine Nat.le_trans (Nat.le_of_eq ?_) u3
          unfold ldN
          refine sN_congr (fun i hi => ?_)
          show (if s.testBit i = true ∧ (if u.testBit i = true then k + 1 else f i) = j then D i else 0) = (if u.testBit i = true then D i else 0)
          by_cases hu : u.testBit i = true
          · rw [if_pos hu, if_pos hu, if_pos ⟨sub_bit u2 hu, hj1.symm⟩]
          · rw [if_neg hu, if_neg hu, if_neg]
            rintro ⟨q1, q2⟩
            have := f1 i hi (by
              show (s - u).testBit i = true
              rw [sub_restb hs u2 hi, q1]
              simp [hu])
            omega
        · refine Nat.le_trans (Nat.le_of_eq ?_) (f2 j (by omega))
          refine sN_congr (fun i hi => ?_)
          show (if s.testBit i = true ∧ (if u.testBit i = true then k + 1 else f i) = j then D i else 0) = (if (s - u).testBit i = true ∧ f i = j then D i else 0)
          rw [sub_restb hs u2 hi]
          by_cases hu : u.testBit i = true
          · rw [if_pos hu, if_neg (fun q => hj1 q.2.symm), if_neg (fun q => by
              have := q.1
              rw [hu] at this
              simp at this)]
          · rw [if_neg hu]
            simp [hu]
    · rintro ⟨f, f1, f2⟩
      obtain ⟨u, hu⟩ : ∃ u, u = msk (fun i => s.testBit i && decide (f i = k + 1)) 8 := ⟨_, rfl⟩
      have ub : ∀ i, i < 8 → u.testBit i = (s.testBit i && decide (f i = k + 1)) := fun i hi => by
        rw [hu, msk_bit, decide_eq_true hi, Bool.true_and]
      have hus : u &&& s = u := by
        apply Nat.eq_of_testBit_eq
        intro i
        rw [Nat.testBit_and, hu, msk_bit]
        cases s.testBit i <;> simp
      refine ⟨u, sub_le hus, hus, ?_, ?_⟩
      · refine Nat.le_trans (Nat.le_of_eq ?_) (f2 (k + 1) (by omega))
        unfold ldN
        refine sN_congr (fun i hi => ?_)
        show (if u.testBit i = true then D i else 0) = (if s.testBit i = true ∧ f i = k + 1 then D i else 0)
        rw [ub i hi]
        simp
      · refine (fw_div D k (s - u) v (by omega)).mpr ⟨f, fun i hi hp => ?_, fun j hj => ?_⟩
        · have hp2 : (s - u).testBit i = true := hp
          rw [sub_restb hs hus hi, ub i hi] at hp2
          have hsb : s.testBit i = true := by
            cases h : s.testBit i with
            | false => rw [h] at hp2; simp at hp2
            | true => rfl
          rw [hsb] at hp2
          have hne : f i ≠ k + 1 := fun q => by
            rw [q] at hp2
            simp at hp2
          have := f1 i hi hsb
          omega
        · refine Nat.le_trans (Nat.le_of_eq ?_) (f2 j (by omega))
          refine sN_congr (fun i hi => ?_)
          show (if (s - u).testBit i = true ∧ f i = j then D i else 0) = (if s.testBit i = true ∧ f i = j then D i else 0)
          rw [sub_restb hs hus hi, ub i hi]
          by_cases hfj : f i = j
          · have : decide (f i = k + 1) = false := decide_eq_false (by omega)
            rw [this]
            simp
          · rw [if_neg (fun q => hfj q.2), if_neg (fun q => hfj q.2)]
/-! the reference's codes -/
def cdN (h c i : Nat) : Nat := c / h ^ i % h
def hlN (D : Nat → Nat) (h c j : Nat) (i : Nat) : Nat := sN (fun q => if cdN h c q = j then D q else 0) i
def lgN (D : Nat → Nat) (h c : Nat) : Nat → Nat
  | 0 => 0
  | i + 1 => max (lgN D h c i) (hlN D h c (cdN h c i) (i + 1))
def lsN (D : Nat → Nat) (h n : Nat) : Nat → Nat
  | 0 => 1000000
  | c + 1 => min (lsN D h n c) (lgN D h c n)
theorem hlN_s (D : Nat → Nat) (h c j i : Nat) : hlN D h c j (i + 1) = hlN D h c j i + (if cdN h c i = j then D i else 0) := by
  unfold hlN
  rw [sN]
theorem lgN_le {D : Nat → Nat} {h c v : Nat} (hh : 0 < h) : ∀ i, lgN D h c i ≤ v ↔ ∀ j, j < h → hlN D h c j i ≤ v
  | 0 => ⟨fun _ j _ => Nat.zero_le _, fun _ => Nat.zero_le _⟩
  | i + 1 => by
    have ih := lgN_le (D := D) (c := c) (v := v) hh i
    have hcd : cdN h c i < h := Nat.mod_lt _ hh
    rw [lgN]
    constructor
    · intro hm j hj
      have h1 := ih.mp (by omega) j hj
      by_cases e : cdN h c i = j
      · subst e
        omega
      · rw [hlN_s, if_neg e]
        omega
    · intro hm
      have h1 := ih.mpr (fun j hj => by
        have := hm j hj
        rw [hlN_s] at this
        omega)
      have h2 := hm _ hcd
      omega
theorem lsN_le {D : Nat → Nat} {h n v : Nat} (hv : v < 1000000) : ∀ c, lsN D h n c ≤ v ↔ ∃ q, q < c ∧ lgN D h q n ≤ v
  | 0 => by
    rw [lsN]
    exact ⟨fun h => by omega, fun ⟨q, h1, _⟩ => by omega⟩
  | c + 1 => by
    have ih := lsN_le (D := D) (h := h) (n := n) hv c
    rw [lsN]
    constructor
    · intro hm
      by_cases h1 : lsN D h n c ≤ v
      · obtain ⟨q, q1, q2⟩ := ih.mp h1
        exact ⟨q, by omega, q2⟩
      · exact ⟨c, by omega, by omega⟩
    · rintro ⟨q, q1, q2⟩
      by_cases hq : q = c
      · subst hq
        omega
      · have := ih.mpr ⟨q, by omega, q2⟩
        omega
theorem lsN_top (D : Nat → Nat) (h n : Nat) : ∀ c, lsN D h n c ≤ 1000000
  | 0 => Nat.le_refl _
  | c + 1 => by
    have := lsN_top D h n c
    rw [lsN]
    omega
/-- the code of a division -/
def enN (h : Nat) : Nat → (Nat → Nat) → Nat
  | 0, _ => 0
  | n + 1, f => f 0 + h * enN h n (fun i => f (i + 1))
theorem enN_lt {h : Nat} (hh : 0 < h) : ∀ n f, (∀ i, i < n → f i < h) → enN h n f < h ^ n
  | 0, f, _ => by
    rw [enN, Nat.pow_zero]
    omega
  | n + 1, f, hf => by
    have h1 := enN_lt hh n (fun i => f (i + 1)) (fun i hi => hf (i + 1) (by omega))
    have h2 := hf 0 (by omega)
    have h3 : h * (enN h n (fun i => f (i + 1)) + 1) ≤ h * h ^ n := Nat.mul_le_mul_left h h1
    rw [enN, Nat.pow_succ, Nat.mul_comm (h ^ n) h]
    rw [Nat.mul_add, Nat.mul_one] at h3
    omega
theorem enN_at {h : Nat} (hh : 0 < h) : ∀ n f i, (∀ i, i < n → f i < h) → i < n → cdN h (enN h n f) i = f i
  | 0, f, i, _, hi => by omega
  | n + 1, f, 0, hf, _ => by
    have h2 := hf 0 (by omega)
    unfold cdN
    rw [enN, Nat.pow_zero, Nat.div_one, Nat.add_mul_mod_self_left, Nat.mod_eq_of_lt h2]
  | n + 1, f, i + 1, hf, hi => by
    have h2 := hf 0 (by omega)
    have ih := enN_at hh n (fun i => f (i + 1)) i (fun i hi => hf (i + 1) (by omega)) (by omega)
    unfold cdN at ih ⊢
    rw [enN, Nat.pow_succ, Nat.mul_comm (h ^ i) h, ← Nat.div_div_eq_div_mul, Nat.add_mul_div_left _ _ hh, Nat.div_eq_of_lt h2, Nat.zero_add]
    exact ih
theorem sN_cut (F : Nat → Nat) (n : Nat) : ∀ m, (∀ i, n ≤ i → i < n + m → F i = 0) → sN F (n + m) = sN F n
  | 0, _ => rfl
  | m + 1, h => by
    rw [show n + (m + 1) = (n + m) + 1 by omega, sN, sN_cut F n m (fun i h1 h2 => h i h1 (by omega)), h (n + m) (by omega) (by omega)]
    rfl
theorem full_bit {n i : Nat} : (2 ^ n - 1).testBit i = decide (i < n) := Nat.testBit_two_pow_sub_one n i
theorem ls_div {D : Nat → Nat} {h n v : Nat} (hh : 0 < h) (hn : n ≤ 8) (hv : v < 1000000) : lsN D h n (h ^ n) ≤ v ↔ Div D h (fun i => (2 ^ n - 1).testBit i) v := by
  have cut : ∀ (f : Nat → Nat) (j : Nat), sN (fun i => if (2 ^ n - 1).testBit i = true ∧ f i = j then D i else 0) 8 = sN (fun i => if f i = j then D i else 0) n := fun f j => by
    have h1 := sN_cut (fun i => if (2 ^ n - 1).testBit i = true ∧ f i = j then D i else 0) n (8 - n) (fun i h1 h2 => by
      show (if (2 ^ n - 1).testBit i = true ∧ f i = j then D i else 0) = 0
      rw [full_bit, if_neg]
      rintro ⟨q, _⟩
      have := of_decide_eq_true q
      omega)
    rw [show n + (8 - n) = 8 by omega] at h1
    rw [h1]
    refine sN_congr (fun i hi => ?_)
    show (if (2 ^ n - 1).testBit i = true ∧ f i = j then D i else 0) = (if f i = j then D i else 0)
    rw [full_bit, decide_eq_true hi]
    simp
  rw [lsN_le hv]
  constructor
  · rintro ⟨q, q1, q2⟩
    have q3 := (lgN_le hh n).mp q2
    refine ⟨fun i => cdN h q i, fun i _ _ => Nat.mod_lt _ hh, fun j hj => ?_⟩
    have := q3 j hj
    unfold hlN at this
    exact Nat.le_trans (Nat.le_of_eq (cut (fun i => cdN h q i) j)) this
  · rintro ⟨f, f1, f2⟩
    have hf : ∀ i, i < n → f i < h := fun i hi => f1 i (by omega) (by
      show (2 ^ n - 1).testBit i = true
      rw [full_bit, decide_eq_true hi])
    refine ⟨enN h n f, enN_lt hh n f hf, (lgN_le hh n).mpr (fun j hj => ?_)⟩
    refine Nat.le_trans (Nat.le_of_eq ?_) (f2 j hj)
    refine Eq.trans ?_ (cut f j).symm
    unfold hlN
    refine sN_congr (fun i hi => ?_)
    show (if cdN h (enN h n f) i = j then D i else 0) = (if f i = j then D i else 0)
    rw [enN_at hh n f i hf hi]
theorem ldN_le {D : Nat → Nat} (hD : ∀ i, D i ≤ 9) (s : Nat) : ldN D s ≤ 72 := by
  unfold ldN
  refine Nat.le_trans (sN_le (b := 9) (fun i _ => ?_)) (by omega)
  show (if s.testBit i = true then D i else 0) ≤ 9
  split
  · exact hD i
  · exact Nat.zero_le _
theorem gmn_top {L F : Nat → Nat} {s : Nat} : ∀ g, gmn L F s g ≤ F s
  | 0 => by rw [gmn]; exact Nat.le_refl _
  | g + 1 => by
    have := gmn_top (L := L) (F := F) (s := s) g
    rw [gmn]
    split <;> omega
theorem fwN_le {L : Nat → Nat} (hL : ∀ s, L s ≤ 72) : ∀ k s, fwN L k s ≤ 72
  | 0, s => hL s
  | k + 1, s => by
    rw [fwN_s]
    exact Nat.le_trans (gmn_top s) (fwN_le hL k s)
/-- the class and the reference tell the same -/
theorem mend_same {D : Nat → Nat} (hD : ∀ i, D i ≤ 9) {k n : Nat} (hn : n ≤ 8) : fwN (ldN D) k (2 ^ n - 1) = lsN D (k + 1) n ((k + 1) ^ n) := by
  have h8 : 2 ^ n ≤ 2 ^ 8 := Nat.pow_le_pow_right (by omega) hn
  have hp : 0 < 2 ^ n := Nat.pow_pos (by omega)
  have h72 := fwN_le (ldN_le hD) k (2 ^ n - 1)
  have a1 := (fw_div D k (2 ^ n - 1) _ (by omega)).mp (Nat.le_refl (fwN (ldN D) k (2 ^ n - 1)))
  have a2 := (ls_div (h := k + 1) (by omega) hn (by omega)).mpr a1
  have a3 := (ls_div (h := k + 1) (v := lsN D (k + 1) n ((k + 1) ^ n)) (by omega) hn (by omega)).mp (Nat.le_refl _)
  have a4 := (fw_div D k (2 ^ n - 1) _ (by omega)).mpr a3
  omega
