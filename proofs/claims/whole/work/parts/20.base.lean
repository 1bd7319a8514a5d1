/-! THE PLAIN PART begins: small numbers, places, masks. -/
def b2 (b : Bool) : Int32 := if b then 1 else 0
theorem b2_t : b2 true = 1 := rfl
theorem b2_f : b2 false = 0 := rfl
theorem b2_0 (b : Bool) : (b2 b = 0) ↔ b = false := by cases b <;> decide
theorem b2_1 (b : Bool) : (b2 b = 1) ↔ b = true := by cases b <;> decide
theorem b2_01 (b : Bool) : b2 b = 0 ∨ b2 b = 1 := by cases b <;> decide
theorem g3 {i : Nat} (h : i < 3) : ¬ (3 : Int32) ≤ nI i := nI_ge (b := 3) h (by omega)
theorem e3 : (3 : Int32) ≤ nI 3 := nI_le (a := 3) (b := 3) (Nat.le_refl 3) (by omega)
theorem g4 {i : Nat} (h : i < 4) : ¬ (4 : Int32) ≤ nI i := nI_ge (b := 4) h (by omega)
theorem e4 : (4 : Int32) ≤ nI 4 := nI_le (a := 4) (b := 4) (Nat.le_refl 4) (by omega)
theorem g6 {i : Nat} (h : i < 6) : ¬ (6 : Int32) ≤ nI i := nI_ge (b := 6) h (by omega)
theorem e6 : (6 : Int32) ≤ nI 6 := nI_le (a := 6) (b := 6) (Nat.le_refl 6) (by omega)
theorem g8 {i : Nat} (h : i < 8) : ¬ (8 : Int32) ≤ nI i := nI_ge (b := 8) h (by omega)
theorem e8 : (8 : Int32) ≤ nI 8 := nI_le (a := 8) (b := 8) (Nat.le_refl 8) (by omega)
theorem g9 {i : Nat} (h : i < 9) : ¬ (9 : Int32) ≤ nI i := nI_ge (b := 9) h (by omega)
theorem e9 : (9 : Int32) ≤ nI 9 := nI_le (a := 9) (b := 9) (Nat.le_refl 9) (by omega)
theorem g10 {i : Nat} (h : i < 10) : ¬ (10 : Int32) ≤ nI i := nI_ge (b := 10) h (by omega)
theorem e10 : (10 : Int32) ≤ nI 10 := nI_le (a := 10) (b := 10) (Nat.le_refl 10) (by omega)
theorem g11 {i : Nat} (h : i < 11) : ¬ (11 : Int32) ≤ nI i := nI_ge (b := 11) h (by omega)
theorem e11 : (11 : Int32) ≤ nI 11 := nI_le (a := 11) (b := 11) (Nat.le_refl 11) (by omega)
theorem g18 {i : Nat} (h : i < 18) : ¬ (18 : Int32) ≤ nI i := nI_ge (b := 18) h (by omega)
theorem e18 : (18 : Int32) ≤ nI 18 := nI_le (a := 18) (b := 18) (Nat.le_refl 18) (by omega)
theorem g24 {i : Nat} (h : i < 24) : ¬ (24 : Int32) ≤ nI i := nI_ge (b := 24) h (by omega)
theorem e24 : (24 : Int32) ≤ nI 24 := nI_le (a := 24) (b := 24) (Nat.le_refl 24) (by omega)
theorem g42 {i : Nat} (h : i < 42) : ¬ (42 : Int32) ≤ nI i := nI_ge (b := 42) h (by omega)
theorem e42 : (42 : Int32) ≤ nI 42 := nI_le (a := 42) (b := 42) (Nat.le_refl 42) (by omega)
theorem g60 {i : Nat} (h : i < 60) : ¬ (60 : Int32) ≤ nI i := nI_ge (b := 60) h (by omega)
theorem e60 : (60 : Int32) ≤ nI 60 := nI_le (a := 60) (b := 60) (Nat.le_refl 60) (by omega)
theorem g81 {i : Nat} (h : i < 81) : ¬ (81 : Int32) ≤ nI i := nI_ge (b := 81) h (by omega)
theorem e81 : (81 : Int32) ≤ nI 81 := nI_le (a := 81) (b := 81) (Nat.le_refl 81) (by omega)
theorem g89 {i : Nat} (h : i < 89) : ¬ (89 : Int32) ≤ nI i := nI_ge (b := 89) h (by omega)
theorem e89 : (89 : Int32) ≤ nI 89 := nI_le (a := 89) (b := 89) (Nat.le_refl 89) (by omega)
theorem g256 {i : Nat} (h : i < 256) : ¬ (256 : Int32) ≤ nI i := nI_ge (b := 256) h (by omega)
theorem e256 : (256 : Int32) ≤ nI 256 := nI_le (a := 256) (b := 256) (Nat.le_refl 256) (by omega)
theorem g600 {i : Nat} (h : i < 600) : ¬ (600 : Int32) ≤ nI i := nI_ge (b := 600) h (by omega)
theorem e600 : (600 : Int32) ≤ nI 600 := nI_le (a := 600) (b := 600) (Nat.le_refl 600) (by omega)
theorem g1000 {i : Nat} (h : i < 1000) : ¬ (1000 : Int32) ≤ nI i := nI_ge (b := 1000) h (by omega)
theorem e1000 : (1000 : Int32) ≤ nI 1000 := nI_le (a := 1000) (b := 1000) (Nat.le_refl 1000) (by omega)
theorem one_ne : ¬ (1 : Int32) = 0 := by decide
theorem zck_b2 (b : Bool) : zck (b2 b) = some (b2 b) := zck_ok (b2_01 b)
theorem zck_0 : zck 0 = some 0 := zck_ok (Or.inl rfl)
theorem zck_1 : zck 1 = some 1 := zck_ok (Or.inr rfl)
theorem wi_eq (x l u : Int32) : f_X5_within x l u = f_X6_in x l u := rfl
theorem ho_eq (x k : Int32) : f_X5_holds x k = f_X6_has x k := rfl
theorem in_ok {k a b : Nat} (h1 : a ≤ k) (h2 : k ≤ b) (hb : b < 2 ^ 31) : f_X6_in (nI k) (nI a) (nI b) = some 1 := by
  rw [f_X6_in, if_neg (nI_nlt h1 (by omega)), if_neg (nI_nlt h2 (by omega))]
theorem in_lo {k a b : Nat} (h1 : k < a) (ha : a < 2 ^ 31) : f_X6_in (nI k) (nI a) (nI b) = some 0 := by
  rw [f_X6_in, if_pos (nI_lt h1 ha)]
theorem in_hi {k a b : Nat} (h1 : b < k) (hk : k < 2 ^ 31) : f_X6_in (nI k) (nI a) (nI b) = some 0 := by
  rw [f_X6_in]
  by_cases h : nI k < nI a
  · rw [if_pos h]
  · rw [if_neg h, if_pos (nI_lt h1 hk)]
/-- an int between two small ones, or not -/
theorem in_cases (x : Int32) (a b : Nat) (hb : b < 2 ^ 31) (hab : a ≤ b) : (f_X6_in x (nI a) (nI b) = some 0 ∧ ¬ ∃ k, a ≤ k ∧ k ≤ b ∧ x = nI k) ∨ (∃ k, a ≤ k ∧ k ≤ b ∧ x = nI k ∧ f_X6_in x (nI a) (nI b) = some 1) := by
  by_cases h1 : x < nI a
  · refine Or.inl ⟨by rw [f_X6_in, if_pos h1], ?_⟩
    rintro ⟨k, h2, h3, rfl⟩
    exact nI_nlt h2 (by omega) h1
  · by_cases h2 : nI b < x
    · refine Or.inl ⟨by rw [f_X6_in, if_neg h1, if_pos h2], ?_⟩
      rintro ⟨k, h3, h4, rfl⟩
      exact nI_nlt h4 (by omega) h2
    · refine Or.inr ?_
      have h0 : ¬ x < 0 := by
        intro h
        apply h1
        rw [Int32.lt_iff_toInt_lt] at h ⊢
        rw [nI_toInt (by omega)]
        have : (0 : Int32).toInt = 0 := by decide
        omega
      obtain ⟨k, hk, rfl⟩ := nI_of h0
      have e1 : a ≤ k := by
        rcases Nat.lt_or_ge k a with q | q
        · exact absurd (nI_lt q (by omega)) h1
        · exact q
      have e2 : k ≤ b := by
        rcases Nat.lt_or_ge b k with q | q
        · exact absurd (nI_lt q hk) h2
        · exact q
      exact ⟨k, e1, e2, rfl, in_ok e1 e2 hb⟩
/-- an index below n, or not -/
theorem ix_cases (x : Int32) (n : Nat) (hn : n < 2 ^ 31) : (x < 0 ∨ nI n ≤ x) ∨ ∃ j, j < n ∧ x = nI j := by
  rcases pk_ix x hn with h | h | h
  · exact Or.inl (Or.inl h)
  · exact Or.inl (Or.inr h)
  · exact Or.inr h
theorem isPlace_ok {i : Nat} (hi : i < 9) : f_X5_isPlace (nI i) = some 1 := by
  rw [f_X5_isPlace, if_neg (nI_pos (by omega)), if_neg (g9 hi)]
theorem isPlace_no {x : Int32} (h : x < 0 ∨ nI 9 ≤ x) : f_X5_isPlace x = some 0 := by
  rw [f_X5_isPlace]
  rcases h with h | h
  · rw [if_pos h]
  · by_cases h0 : x < 0
    · rw [if_pos h0]
    · rw [if_neg h0, if_pos (show (9 : Int32) ≤ x from h)]
theorem isWalker_ok {i : Nat} (hi : i < 6) : f_X5_isWalker (nI i) = some 1 := by
  rw [f_X5_isWalker, if_neg (nI_pos (by omega)), if_neg (g6 hi)]
theorem isWalker_no {x : Int32} (h : x < 0 ∨ nI 6 ≤ x) : f_X5_isWalker x = some 0 := by
  rw [f_X5_isWalker]
  rcases h with h | h
  · rw [if_pos h]
  · by_cases h0 : x < 0
    · rw [if_pos h0]
    · rw [if_neg h0, if_pos (show (6 : Int32) ≤ x from h)]
theorem in0_no {x : Int32} {n : Nat} (hn : n + 1 < 2 ^ 31) (h : x < 0 ∨ nI (n + 1) ≤ x) : f_X6_in x (nI 0) (nI n) = some 0 := by
  rcases in_cases x 0 n (by omega) (by omega) with ⟨e, -⟩ | ⟨k, h1, h2, rfl, -⟩
  · exact e
  · exfalso
    rcases h with h | h
    · exact nI_pos (by omega) h
    · exact nI_ge (a := k) (b := n + 1) (by omega) (by omega) h
theorem mPlace_ok {i : Nat} (hi : i < 9) : f_X6_isPlace (nI i) = some 1 := by
  rw [f_X6_isPlace, show f_X6_in (nI i) (0 : Int32) (8 : Int32) = some 1 from in_ok (a := 0) (b := 8) (by omega) (by omega) (by omega)]
  simp only [obs, zck_1]
theorem mPlace_no {x : Int32} (h : x < 0 ∨ nI 9 ≤ x) : f_X6_isPlace x = some 0 := by
  rw [f_X6_isPlace, show f_X6_in x (0 : Int32) (8 : Int32) = some 0 from in0_no (n := 8) (by omega) h]
  simp only [obs, zck_0]
theorem two_ok {i j : Nat} (hi : i < 9) (hj : j < 9) (hn : i ≠ j) : f_X5_areTwoPlaces (nI i) (nI j) = some 1 := by
  rw [f_X5_areTwoPlaces, if_neg (nI_pos (by omega)), if_neg (g9 hi), if_neg (nI_pos (by omega)), if_neg (g9 hj), if_neg (fun e => hn ((nI_eq (by omega) (by omega)).mp e))]
theorem two_same (x : Int32) : f_X5_areTwoPlaces x x = some 0 := by
  rw [f_X5_areTwoPlaces]
  by_cases h1 : x < 0
  · rw [if_pos h1]
  · by_cases h2 : (9 : Int32) ≤ x
    · rw [if_neg h1, if_pos h2]
    · rw [if_neg h1, if_neg h2, if_neg h1, if_neg h2, if_pos rfl]
theorem two_no {x y : Int32} (h : (x < 0 ∨ nI 9 ≤ x) ∨ (y < 0 ∨ nI 9 ≤ y)) : f_X5_areTwoPlaces x y = some 0 := by
  rw [f_X5_areTwoPlaces]
  split
  · rfl
  · next h1 =>
    split
    · rfl
    · next h2 =>
      split
      · rfl
      · next h3 =>
        split
        · rfl
        · next h4 =>
          exfalso
          rcases h with (h | h) | (h | h)
          · exact h1 h
          · exact h2 h
          · exact h3 h
          · exact h4 h
theorem at_ok {n : Nat} (h : Hp) (r : Nat) {i : Nat} (hi : i < n) (hn : n < 2 ^ 31) : f_X5_at r n (nI i) h = some (h.1 r i) := by
  rw [f_X5_at, if_neg (nI_pos (by omega)), if_neg (show ¬ Int32.ofNat n ≤ nI i from nI_ge hi (by omega)), ald_ok h r hi hn]
  rfl
theorem put_ok {n : Nat} (h : Hp) (r : Nat) {i : Nat} (v : Int32) (hi : i < n) (hn : n < 2 ^ 31) : f_X5_put r n (nI i) v h = some (ip h r i v) := by
  rw [f_X5_put, if_neg (nI_pos (by omega)), if_neg (show ¬ Int32.ofNat n ≤ nI i from nI_ge hi (by omega)), ast_ok h r v hi hn]
  rfl
/-! masks -/
def msk (f : Nat → Bool) : Nat → Nat
  | 0 => 0
  | k + 1 => msk f k ||| (if f k then 2 ^ k else 0)
theorem msk_bit (f : Nat → Bool) : ∀ n k, (msk f n).testBit k = (decide (k < n) && f k)
  | 0, k => by simp [msk]
  | n + 1, k => by
    rw [msk, Nat.testBit_or, msk_bit f n k]
    by_cases hf : f n
    · rw [if_pos hf, Nat.testBit_two_pow]
      by_cases hk : n = k
      · subst hk; simp [hf]
      · have : decide (k < n + 1) = decide (k < n) := by simp; omega
        simp [hk, this]
    · rw [if_neg hf]
      by_cases hk : k = n
      · subst hk; simp [hf]
      · have : decide (k < n + 1) = decide (k < n) := by simp; omega
        simp [this]
theorem msk_lt (f : Nat → Bool) (n : Nat) : msk f n < 2 ^ n := by
  refine Nat.lt_pow_two_of_testBit _ (fun i hi => ?_)
  rw [msk_bit]
  simp
  omega
theorem msk_congr {f g : Nat → Bool} : ∀ {n : Nat}, (∀ k, k < n → f k = g k) → msk f n = msk g n
  | 0, _ => rfl
  | n + 1, h => by rw [msk, msk, msk_congr (fun k hk => h k (by omega)), h n (by omega)]
theorem nI_or (a b : Nat) : nI a ||| nI b = nI (a ||| b) := by
  apply Int32.toBitVec_inj.mp
  show BitVec.ofNat 32 a ||| BitVec.ofNat 32 b = BitVec.ofNat 32 (a ||| b)
  exact (BitVec.ofNat_or ..).symm
theorem nI_and (a b : Nat) : nI a &&& nI b = nI (a &&& b) := by
  apply Int32.toBitVec_inj.mp
  show BitVec.ofNat 32 a &&& BitVec.ofNat 32 b = BitVec.ofNat 32 (a &&& b)
  exact (BitVec.ofNat_and ..).symm
theorem nI_xor (a b : Nat) : nI a ^^^ nI b = nI (a ^^^ b) := by
  apply Int32.toBitVec_inj.mp
  show BitVec.ofNat 32 a ^^^ BitVec.ofNat 32 b = BitVec.ofNat 32 (a ^^^ b)
  exact (BitVec.ofNat_xor ..).symm
theorem sh1 : ∀ k, k < 31 → (1 : Int32) <<< (nI k &&& 31) = nI (2 ^ k) := by decide +kernel
theorem smod31 : ∀ k, k < 32 → ((nI k &&& 31).toBitVec.smod 32).toNat = k := by decide +kernel
theorem shr_nI {m k : Nat} (hm : m < 2 ^ 31) (hk : k < 32) : nI m >>> (nI k &&& 31) = nI (m / 2 ^ k) := pk_shrN hm _ k (smod31 k hk)
theorem bit_nI {m k : Nat} (hm : m < 2 ^ 31) (hk : k < 32) : (nI m >>> (nI k &&& 31)) &&& (1 : Int32) = b2 (m.testBit k) := by
  rw [shr_nI hm hk, show (1 : Int32) = nI 1 from rfl, nI_and, Nat.and_one_is_mod]
  have h2 : (m / 2 ^ k) % 2 = (m.testBit k).toNat := by
    rw [Nat.toNat_testBit]
  rw [h2]
  cases m.testBit k <;> rfl
theorem has_ok {m k : Nat} (hm : m < 2 ^ 31) (hk : k < 32) : f_X6_has (nI m) (nI k) = some (b2 (m.testBit k)) := by
  rw [f_X6_has, bit_nI hm hk]
  cases m.testBit k <;> rfl
/-- how many bits -/
def pcn (m : Nat) : Nat → Nat
  | 0 => 0
  | k + 1 => pcn m k + (m.testBit k).toNat
theorem bitCount_ok : ∀ m, m < 512 → f_J6_bitCount_0f7a4 (nI m) = some (nI (pcn m 9)) := by decide +kernel
theorem bits_ok {m : Nat} (hm : m < 512) : f_X6_bits (nI m) = some (nI (pcn m 9)) := by
  rw [f_X6_bits]
  refine loop_FU (fun f (q : Int32 × Int32) => f_X6_bits_l4 (nI m) (fun (w3 : Int32) (w4 : Int32) => some w3) f q.1 q.2) (fun k => (nI (pcn m k), nI k)) 9 _ (by omega) (fun f k hk => ?_) (fun f => ?_)
  · show f_X6_bits_l4 (nI m) _ (f + 1) (nI (pcn m k)) (nI k) = f_X6_bits_l4 (nI m) _ f (nI (pcn m (k + 1))) (nI (k + 1))
    rw [f_X6_bits_l4, if_neg (g9 hk)]
    simp only [obs]
    rw [bit_nI (by omega) (by omega), nI_succ', pcn]
    congr 1
    rw [← nI_add]
    cases m.testBit k <;> rfl
  · show f_X6_bits_l4 (nI m) _ (f + 1) (nI (pcn m 9)) (nI 9) = _
    rw [f_X6_bits_l4, if_pos e9]
/-- sums of ints -/
def sI (f : Nat → Int32) : Nat → Int32
  | 0 => 0
  | k + 1 => sI f k + f k
theorem sI_congr {f g : Nat → Int32} : ∀ {n : Nat}, (∀ k, k < n → f k = g k) → sI f n = sI g n
  | 0, _ => rfl
  | n + 1, h => by rw [sI, sI, sI_congr (fun k hk => h k (by omega)), h n (by omega)]
