/-! SHIRES: what the readings of a shire answer, of the class (X_) and of the reference (M_). -/
def inb (x l u : Int32) : Bool := decide (f_X6_in x l u = some 1)
theorem in_b2 (x l u : Int32) : f_X6_in x l u = some (b2 (inb x l u)) := by
  unfold inb f_X6_in
  by_cases h1 : x < l
  · simp [h1, b2]
  · by_cases h2 : u < x
    · simp [h1, h2, b2]
    · simp [h1, h2, b2]
def okv (v : Int32) : Prop := v = -6 ∨ (∃ w : Nat, w ≤ 9 ∧ v = nI w) ∨ ∃ w : Nat, 101 ≤ w ∧ w ≤ 103 ∧ v = nI w
def okR (R : Nat → Int32) : Prop := (∀ i j, i < 9 → j < 9 → R (9 * i + j) = R (9 * j + i)) ∧ (∀ i, i < 9 → R (9 * i + i) = -6) ∧ ∀ k, k < 81 → okv (R k)
def opn (R : Nat → Int32) (i j : Nat) : Bool := inb (R (9 * i + j)) 0 8
theorem ix9 (i j : Nat) : nI i * (9 : Int32) + nI j = nI (9 * i + j) := by
  rw [show (9 : Int32) = nI 9 from rfl, pk_mul, nI_add, Nat.mul_comm]
theorem ix9' (i j : Nat) : (9 : Int32) * nI i + nI j = nI (9 * i + j) := by
  rw [show (9 : Int32) = nI 9 from rfl, pk_mul, nI_add]
theorem ix81 (k : Nat) : (81 : Int32) + nI k = nI (81 + k) := nI_add 81 k
theorem m6_0 : ¬ (0 : Int32) ≤ -6 := by decide
theorem neg6 {w : Nat} (h : w < 2 ^ 31) : ¬ nI w = -6 := by
  intro e
  have h1 := nI_pos' h
  rw [e] at h1
  exact m6_0 h1
theorem X_road (a : Nat) (h : Hp) {i j : Nat} (hi : i < 9) (hj : j < 9) (hd : ∀ i, i < 9 → h.1 (a + 1) (9 * i + i) = -6) : f_X2_roadBetween a (nI i) (nI j) h = some (h.1 (a + 1) (9 * i + j)) := by
  rw [f_X2_roadBetween]
  by_cases hn : i = j
  · subst hn
    rw [two_same, hd i hi]
    rfl
  · rw [two_ok hi hj hn]
    simp only [obs, if_neg one_ne]
    rw [ix9, at_ok h _ (by omega) (by omega)]
    rfl
theorem X_isOpen (a : Nat) (h : Hp) {i j : Nat} (hi : i < 9) (hj : j < 9) (hd : ∀ i, i < 9 → h.1 (a + 1) (9 * i + i) = -6) : f_X2_isOpen a (nI i) (nI j) h = some (b2 (opn (h.1 (a + 1)) i j)) := by
  rw [f_X2_isOpen, X_road a h hi hj hd]
  simp only [obs]
  rw [wi_eq, in_b2]
  simp only [obs, zck_b2]
  rfl
theorem M_isOpen (h : Hp) {i j : Nat} (hi : i < 9) (hj : j < 9) : f_X6_isOpen (nI i) (nI j) h = some (b2 (opn (h.1 2) i j)) := by
  rw [f_X6_isOpen, ix9', ald_ok h 2 (by omega) (by omega)]
  simp only [obs]
  rw [in_b2]
  simp only [obs, zck_b2]
  rfl
theorem nz0 {m : Nat} (h : m < 2 ^ 31) : nI m = 0 ↔ m = 0 := nI_eq (b := 0) h (by decide)
theorem X_openFrom (a : Nat) (h : Hp) {i : Nat} (hi : i < 9) (hd : ∀ i, i < 9 → h.1 (a + 1) (9 * i + i) = -6) : f_X2_openFrom a (nI i) h = some (nI (msk (opn (h.1 (a + 1)) i) 9)) := by
  rw [f_X2_openFrom]
  refine loop_FU (fun f (q : Int32 × Int32) => f_X2_openFrom_l4 a (nI i) h (fun (w5 : Int32) (w6 : Int32) => some w5) f q.1 q.2) (fun k => (nI (msk (opn (h.1 (a + 1)) i) k), nI k)) 9 _ (by omega) (fun f k hk => ?_) (fun f => ?_)
  · show f_X2_openFrom_l4 a (nI i) h _ (f + 1) (nI (msk _ k)) (nI k) = f_X2_openFrom_l4 a (nI i) h _ f (nI (msk _ (k + 1))) (nI (k + 1))
    rw [f_X2_openFrom_l4, if_neg (g9 hk), X_isOpen a h hi hk hd]
    simp only [obs]
    rw [msk, sh1 k (by omega), nI_succ', nI_or]
    cases opn (h.1 (a + 1)) i k
    · rw [if_pos b2_f, if_neg (by decide), Nat.or_zero]
    · rw [if_neg (by decide), if_pos rfl]
  · show f_X2_openFrom_l4 a (nI i) h _ (f + 1) (nI (msk _ 9)) (nI 9) = _
    rw [f_X2_openFrom_l4, if_pos e9]
theorem M_openFrom (h : Hp) {i : Nat} (hi : i < 9) : f_X6_openFrom (nI i) h = some (nI (msk (opn (h.1 2) i) 9)) := by
  rw [f_X6_openFrom]
  refine loop_FU (fun f (q : Int32 × Int32) => f_X6_openFrom_l4 (nI i) h (fun (w5 : Int32) (w6 : Int32) => some w5) f q.1 q.2) (fun k => (nI (msk (opn (h.1 2) i) k), nI k)) 9 _ (by omega) (fun f k hk => ?_) (fun f => ?_)
  · show f_X6_openFrom_l4 (nI i) h _ (f + 1) (nI (msk _ k)) (nI k) = f_X6_openFrom_l4 (nI i) h _ f (nI (msk _ (k + 1))) (nI (k + 1))
    rw [f_X6_openFrom_l4, if_neg (g9 hk), M_isOpen h hi hk]
    simp only [obs]
    rw [msk, sh1 k (by omega)]
    cases opn (h.1 2) i k
    · rw [if_pos b2_f, if_neg (by decide)]
      simp only [obs]
      rw [show (0 : Int32) = nI 0 from rfl, nI_or, nI_succ']
    · rw [if_neg (by decide), if_pos rfl]
      simp only [obs]
      rw [nI_or, nI_succ']
  · show f_X6_openFrom_l4 (nI i) h _ (f + 1) (nI (msk _ 9)) (nI 9) = _
    rw [f_X6_openFrom_l4, if_pos e9]
/-- the counts -/
theorem X_countRoads (a : Nat) (h : Hp) : f_X2_countRoads a h = some (sI (fun k => if h.1 (a + 1) k = -6 then 0 else 1) 81 / 2) := by
  rw [f_X2_countRoads]
  refine loop_FU (fun f (q : Int32 × Int32) => f_X2_countRoads_l4 a h (fun (w5 : Int32) (w6 : Int32) => some (w5 / (2 : Int32))) f q.1 q.2) (fun k => (sI (fun k => if h.1 (a + 1) k = -6 then 0 else 1) k, nI k)) 81 _ (by omega) (fun f k hk => ?_) (fun f => ?_)
  · show f_X2_countRoads_l4 a h _ (f + 1) (sI _ k) (nI k) = f_X2_countRoads_l4 a h _ f (sI _ (k + 1)) (nI (k + 1))
    rw [f_X2_countRoads_l4, if_neg (g81 hk), ald_ok h _ hk (by omega)]
    simp only [obs]
    rw [sI, nI_succ']
    by_cases e : h.1 (a + 1) k = -6
    · rw [if_pos e, if_pos e, Int32.add_zero]
    · rw [if_neg e, if_neg e]
  · show f_X2_countRoads_l4 a h _ (f + 1) (sI _ 81) (nI 81) = _
    rw [f_X2_countRoads_l4, if_pos e81]
theorem M_roadsOf (h : Hp) : f_X6_roadsOf h = some (sI (fun k => if h.1 2 k < 0 then 0 else 1) 81 / 2) := by
  rw [f_X6_roadsOf]
  refine loop_FU (fun f (q : Int32 × Int32) => f_X6_roadsOf_l4 h (fun (w5 : Int32) (w6 : Int32) => some (w5 / (2 : Int32))) f q.1 q.2) (fun k => (sI (fun k => if h.1 2 k < 0 then 0 else 1) k, nI k)) 81 _ (by omega) (fun f k hk => ?_) (fun f => ?_)
  · show f_X6_roadsOf_l4 h _ (f + 1) (sI _ k) (nI k) = f_X6_roadsOf_l4 h _ f (sI _ (k + 1)) (nI (k + 1))
    rw [f_X6_roadsOf_l4, if_neg (g81 hk), ald_ok h _ (by omega) (by omega)]
    simp only [obs]
    rw [sI]
    by_cases e : h.1 2 k < 0
    · rw [if_pos e, if_pos e]
      simp only [obs]
      rw [nI_succ']
    · rw [if_neg e, if_neg e]
      simp only [obs]
      rw [nI_succ']
  · show f_X6_roadsOf_l4 h _ (f + 1) (sI _ 81) (nI 81) = _
    rw [f_X6_roadsOf_l4, if_pos e81]
theorem okv_neg {v : Int32} (h : okv v) : (v = -6) ↔ v < 0 := by
  rcases h with rfl | ⟨w, hw, rfl⟩ | ⟨w, h1, h2, rfl⟩
  · decide
  · exact ⟨fun e => absurd e (neg6 (by omega)), fun e => absurd e (nI_pos (by omega))⟩
  · exact ⟨fun e => absurd e (neg6 (by omega)), fun e => absurd e (nI_pos (by omega))⟩
theorem count_same {R B : Nat → Int32} (hR : okR R) (hB : ∀ k, k < 81 → R k = B k) : sI (fun k => if R k = -6 then 0 else 1) 81 = sI (fun k => if B k < 0 then 0 else 1) 81 := by
  refine sI_congr (fun k hk => ?_)
  have h := okv_neg (hR.2.2 k hk)
  rw [← hB k hk]
  by_cases e : R k = -6
  · rw [if_pos e, if_pos (h.mp e)]
  · rw [if_neg e, if_neg (fun q => e (h.mpr q))]
theorem X_addWear (a : Nat) (h : Hp) : f_X2_addWear a h = some (sI (fun k => if inb (h.1 (a + 1) k) 0 9 then h.1 (a + 1) k else 0) 81 / 2) := by
  rw [f_X2_addWear]
  refine loop_FU (fun f (q : Int32 × Int32) => f_X2_addWear_l4 a h (fun (w5 : Int32) (w6 : Int32) => some (w5 / (2 : Int32))) f q.1 q.2) (fun k => (sI (fun k => if inb (h.1 (a + 1) k) 0 9 then h.1 (a + 1) k else 0) k, nI k)) 81 _ (by omega) (fun f k hk => ?_) (fun f => ?_)
  · show f_X2_addWear_l4 a h _ (f + 1) (sI _ k) (nI k) = f_X2_addWear_l4 a h _ f (sI _ (k + 1)) (nI (k + 1))
    rw [f_X2_addWear_l4, if_neg (g81 hk), ald_ok h _ hk (by omega)]
    simp only [obs]
    rw [wi_eq, in_b2]
    simp only [obs]
    rw [sI, nI_succ']
    cases inb (h.1 (a + 1) k) 0 9
    · rw [if_pos b2_f, if_neg (by decide), Int32.add_zero]
    · rw [if_neg (by decide), if_pos rfl]
  · show f_X2_addWear_l4 a h _ (f + 1) (sI _ 81) (nI 81) = _
    rw [f_X2_addWear_l4, if_pos e81]
theorem M_wearOf (h : Hp) : f_X6_wearOf h = some (sI (fun k => if inb (h.1 2 k) 0 9 then h.1 2 k else 0) 81 / 2) := by
  rw [f_X6_wearOf]
  refine loop_FU (fun f (q : Int32 × Int32) => f_X6_wearOf_l4 h (fun (w5 : Int32) (w6 : Int32) => some (w5 / (2 : Int32))) f q.1 q.2) (fun k => (sI (fun k => if inb (h.1 2 k) 0 9 then h.1 2 k else 0) k, nI k)) 81 _ (by omega) (fun f k hk => ?_) (fun f => ?_)
  · show f_X6_wearOf_l4 h _ (f + 1) (sI _ k) (nI k) = f_X6_wearOf_l4 h _ f (sI _ (k + 1)) (nI (k + 1))
    rw [f_X6_wearOf_l4, if_neg (g81 hk), ald_ok h _ (by omega) (by omega)]
    simp only [obs]
    rw [in_b2]
    simp only [obs]
    rw [sI]
    cases inb (h.1 2 k) 0 9
    · rw [if_pos b2_f, if_neg (by decide)]
      simp only [obs]
      rw [nI_succ']
    · rw [if_neg (by decide), if_pos rfl]
      simp only [obs]
      rw [nI_succ']
  · show f_X6_wearOf_l4 h _ (f + 1) (sI _ 81) (nI 81) = _
    rw [f_X6_wearOf_l4, if_pos e81]
theorem X_countOpen (a : Nat) (h : Hp) (hd : ∀ i, i < 9 → h.1 (a + 1) (9 * i + i) = -6) : f_X2_countOpen a h = some (sI (fun i => nI (pcn (msk (opn (h.1 (a + 1)) i) 9) 9)) 9 / 2) := by
  rw [f_X2_countOpen]
  refine loop_FU (fun f (q : Int32 × Int32) => f_X2_countOpen_l4 a h (fun (w5 : Int32) (w6 : Int32) => some (w5 / (2 : Int32))) f q.1 q.2) (fun k => (sI (fun i => nI (pcn (msk (opn (h.1 (a + 1)) i) 9) 9)) k, nI k)) 9 _ (by omega) (fun f k hk => ?_) (fun f => ?_)
  · show f_X2_countOpen_l4 a h _ (f + 1) (sI _ k) (nI k) = f_X2_countOpen_l4 a h _ f (sI _ (k + 1)) (nI (k + 1))
    rw [f_X2_countOpen_l4, if_neg (g9 hk), X_openFrom a h hk hd]
    simp only [obs]
    rw [bitCount_ok _ (msk_lt _ 9)]
    simp only [obs]
    rw [sI, nI_succ']
  · show f_X2_countOpen_l4 a h _ (f + 1) (sI _ 9) (nI 9) = _
    rw [f_X2_countOpen_l4, if_pos e9]
/-- walkers -/
theorem X_isThere (a : Nat) (h : Hp) {k : Nat} (hk : k < 6) : f_X2_isThere a (nI k) h = some (b2 (decide (h.1 (a + 2) k ≠ -1))) := by
  rw [f_X2_isThere, isWalker_ok hk]
  simp only [obs, if_neg one_ne]
  rw [at_ok h _ hk (by omega)]
  simp only [obs]
  by_cases e : h.1 (a + 2) k = -1
  · rw [if_pos e]; simp [e, b2]
  · rw [if_neg e]; simp [e, b2]
theorem X_isThere_no (a : Nat) (h : Hp) {x : Int32} (hx : x < 0 ∨ nI 6 ≤ x) : f_X2_isThere a x h = some 0 := by
  rw [f_X2_isThere, isWalker_no hx]
  rfl
theorem M_isThere (h : Hp) {k t : Nat} (hk : k < 6) (ht : h.1 0 2 = nI t) (ht64 : t < 64) : f_X6_isThere (nI k) h = some (b2 (t.testBit k)) := by
  rw [f_X6_isThere, show f_X6_in (nI k) (0 : Int32) (5 : Int32) = some 1 from in_ok (a := 0) (b := 5) (by omega) (by omega) (by omega)]
  simp only [obs, if_neg one_ne]
  rw [ht, has_ok (by omega) (by omega)]
  simp only [obs]
  cases t.testBit k <;> rfl
theorem M_isThere_no (h : Hp) {x : Int32} (hx : x < 0 ∨ nI 6 ≤ x) : f_X6_isThere x h = some 0 := by
  rw [f_X6_isThere, show f_X6_in x (0 : Int32) (5 : Int32) = some 0 from in0_no (n := 5) (by omega) hx]
  rfl
theorem X_placeOf (a : Nat) (h : Hp) {k : Nat} (hk : k < 6) : f_X2_placeOf a (nI k) h = some (h.1 (a + 2) k) := by
  rw [f_X2_placeOf, at_ok h _ hk (by omega)]
  rfl
theorem X_ironOf (a : Nat) (h : Hp) {k : Nat} (hk : k < 6) : f_X2_ironOf a (nI k) h = some (h.1 (a + 3) k) := by
  rw [f_X2_ironOf, at_ok h _ hk (by omega)]
  rfl
theorem X_walkersThere (a : Nat) (h : Hp) : f_X2_walkersThere a h = some (nI (msk (fun k => decide (h.1 (a + 2) k ≠ -1)) 6)) := by
  rw [f_X2_walkersThere]
  refine loop_FU (fun f (q : Int32 × Int32) => f_X2_walkersThere_l4 a h (fun (w5 : Int32) (w6 : Int32) => some w5) f q.1 q.2) (fun k => (nI (msk (fun k => decide (h.1 (a + 2) k ≠ -1)) k), nI k)) 6 _ (by omega) (fun f k hk => ?_) (fun f => ?_)
  · show f_X2_walkersThere_l4 a h _ (f + 1) (nI (msk _ k)) (nI k) = f_X2_walkersThere_l4 a h _ f (nI (msk _ (k + 1))) (nI (k + 1))
    rw [f_X2_walkersThere_l4, if_neg (g6 hk), X_isThere a h hk]
    simp only [obs]
    rw [msk, sh1 k (by omega), nI_succ', nI_or]
    cases decide (h.1 (a + 2) k ≠ -1)
    · rw [if_pos b2_f, if_neg (by decide), Nat.or_zero]
    · rw [if_neg (by decide), if_pos rfl]
  · show f_X2_walkersThere_l4 a h _ (f + 1) (nI (msk _ 6)) (nI 6) = _
    rw [f_X2_walkersThere_l4, if_pos e6]
/-- a class's shire and the reference's days agree: R, P, I, dx the class's; B the reference's, t who is there -/
def ShR (R P I : Nat → Int32) (dx : Int32) (B : Nat → Int32) (t : Nat) : Prop :=
  (∀ k, k < 81 → R k = B k) ∧ okR R ∧ (∃ i d : Nat, B 87 = nI i ∧ i < 64 ∧ B 88 = nI d ∧ dx = nI d ∧ d ≤ 99 ∧ ∀ k, k < 6 → I k = b2 (i.testBit k)) ∧
  t < 64 ∧ ∀ k, k < 6 → (t.testBit k = true ∧ ∃ p : Nat, p < 9 ∧ B (81 + k) = nI p ∧ P k = nI p) ∨ (t.testBit k = false ∧ P k = -1)
theorem neg1 {w : Nat} (h : w < 2 ^ 31) : ¬ nI w = -1 := by
  intro e
  have h1 := nI_pos' h
  rw [e] at h1
  exact absurd h1 (by decide)
theorem ShR.there {R P I B : Nat → Int32} {dx : Int32} {t : Nat} (h : ShR R P I dx B t) {k : Nat} (hk : k < 6) : decide (P k ≠ -1) = t.testBit k := by
  rcases h.2.2.2.2 k hk with ⟨e, p, hp, -, e2⟩ | ⟨e, e2⟩
  · rw [e, e2]
    simp [neg1 (show p < 2 ^ 31 by omega)]
  · rw [e, e2]
    simp
theorem msk_self {t n : Nat} (h : t < 2 ^ n) : msk t.testBit n = t := by
  refine Nat.eq_of_testBit_eq (fun i => ?_)
  rw [msk_bit]
  by_cases hi : i < n
  · simp [hi]
  · have : t.testBit i = false := Nat.testBit_lt_two_pow (Nat.lt_of_lt_of_le h (Nat.pow_le_pow_right (by omega) (by omega)))
    simp [this]
theorem ShR.diag {R P I B : Nat → Int32} {dx : Int32} {t : Nat} (h : ShR R P I dx B t) : ∀ i, i < 9 → R (9 * i + i) = -6 := h.2.1.2.1
theorem ShR.opm {R P I B : Nat → Int32} {dx : Int32} {t : Nat} (h : ShR R P I dx B t) {i : Nat} (hi : i < 9) : msk (opn R i) 9 = msk (opn B i) 9 := by
  refine msk_congr (fun k hk => ?_)
  unfold opn
  rw [h.1 _ (by omega)]
theorem shutIn_same {a t : Nat} {hx hm : Hp} (hR : ShR (hx.1 (a + 1)) (hx.1 (a + 2)) (hx.1 (a + 3)) (hx.1 a 3) (hm.1 2) t) (ht : hm.1 0 2 = nI t) : ∃ m : Nat, m < 64 ∧ f_X2_shutIn a hx = some (nI m) ∧ f_X6_shutIn hm = some (nI m) := by
  obtain ⟨P, hP⟩ : ∃ P : Nat → Bool, ∀ k, k < 6 → (∃ p : Nat, p < 9 ∧ P k = (t.testBit k && decide (msk (opn (hm.1 2) p) 9 = 0)) ∧ (t.testBit k = true → hm.1 2 (81 + k) = nI p ∧ hx.1 (a + 2) k = nI p)) := by
    have h9 : ∀ k, ∃ b : Bool, k < 6 → (∃ p : Nat, p < 9 ∧ b = (t.testBit k && decide (msk (opn (hm.1 2) p) 9 = 0)) ∧ (t.testBit k = true → hm.1 2 (81 + k) = nI p ∧ hx.1 (a + 2) k = nI p)) := by
      intro k
      by_cases hk : k < 6
      · rcases hR.2.2.2.2 k hk with ⟨e, p, hp, e1, e2⟩ | ⟨e, e2⟩
        · exact ⟨_, fun _ => ⟨p, hp, rfl, fun _ => ⟨e1, e2⟩⟩⟩
        · exact ⟨_, fun _ => ⟨0, by omega, rfl, fun q => absurd q (by rw [e]; decide)⟩⟩
      · exact ⟨false, fun q => absurd q hk⟩
    exact ⟨fun k => Classical.choose (h9 k), fun k hk => Classical.choose_spec (h9 k) hk⟩
  refine ⟨msk P 6, msk_lt P 6, ?_, ?_⟩
  · rw [f_X2_shutIn]
    refine loop_FU (fun f (q : Int32 × Int32) => f_X2_shutIn_l4 a hx (fun (w5 : Int32) (w6 : Int32) => some w5) f q.1 q.2) (fun k => (nI (msk P k), nI k)) 6 _ (by omega) (fun f k hk => ?_) (fun f => ?_)
    · show f_X2_shutIn_l4 a hx _ (f + 1) (nI (msk _ k)) (nI k) = f_X2_shutIn_l4 a hx _ f (nI (msk _ (k + 1))) (nI (k + 1))
      obtain ⟨p, hp, e1, e2⟩ := hP k hk
      rw [f_X2_shutIn_l4, if_neg (g6 hk), X_isThere a hx hk, hR.there hk]
      simp only [obs]
      rw [msk, sh1 k (by omega), nI_succ', nI_or, e1]
      cases ht2 : t.testBit k with
      | false => rw [if_pos b2_f]; simp
      | true =>
        obtain ⟨e3, e4⟩ := e2 ht2
        rw [if_neg (by decide), X_placeOf a hx hk, e4]
        simp only [obs]
        rw [X_openFrom a hx hp hR.diag, hR.opm hp]
        simp only [obs, Bool.true_and]
        by_cases e5 : msk (opn (hm.1 2) p) 9 = 0
        · rw [e5, if_pos (show nI 0 = 0 from rfl)]; simp
        · rw [if_neg (fun q => e5 ((nz0 (Nat.lt_trans (msk_lt _ 9) (by decide))).mp q))]
          simp [e5]
    · show f_X2_shutIn_l4 a hx _ (f + 1) (nI (msk _ 6)) (nI 6) = _
      rw [f_X2_shutIn_l4, if_pos e6]
  · rw [f_X6_shutIn]
    refine loop_FU (fun f (q : Int32 × Int32) => f_X6_shutIn_l4 hm (fun (w5 : Int32) (w6 : Int32) => some w5) f q.1 q.2) (fun k => (nI (msk P k), nI k)) 6 _ (by omega) (fun f k hk => ?_) (fun f => ?_)
    · show f_X6_shutIn_l4 hm _ (f + 1) (nI (msk _ k)) (nI k) = f_X6_shutIn_l4 hm _ f (nI (msk _ (k + 1))) (nI (k + 1))
      obtain ⟨p, hp, e1, e2⟩ := hP k hk
      rw [f_X6_shutIn_l4, if_neg (g6 hk), M_isThere hm hk ht hR.2.2.2.1]
      simp only [obs]
      rw [msk, sh1 k (by omega), e1]
      cases ht2 : t.testBit k with
      | false =>
        rw [if_pos b2_f]
        simp only [obs]
        rw [show (0 : Int32) = nI 0 from rfl, nI_or, nI_succ']
        simp
      | true =>
        obtain ⟨e3, e4⟩ := e2 ht2
        rw [if_neg (by decide), ix81, ald_ok hm 2 (by omega) (by omega), e3]
        simp only [obs]
        rw [M_openFrom hm hp]
        simp only [obs, Bool.true_and]
        by_cases e5 : msk (opn (hm.1 2) p) 9 = 0
        · rw [e5, if_pos (show nI 0 = 0 from rfl)]
          simp only [obs]
          rw [nI_or, nI_succ']
          simp
        · rw [if_neg (fun q => e5 ((nz0 (Nat.lt_trans (msk_lt _ 9) (by decide))).mp q))]
          simp only [obs]
          rw [show (0 : Int32) = nI 0 from rfl, nI_or, nI_succ']
          simp [e5]
    · show f_X6_shutIn_l4 hm _ (f + 1) (nI (msk _ 6)) (nI 6) = _
      rw [f_X6_shutIn_l4, if_pos e6]
