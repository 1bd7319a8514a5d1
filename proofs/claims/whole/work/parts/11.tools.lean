/-! TOOLS of the plain part: reads and writes of the plain heap at small numbers, loops that count. -/
/-- said without a proof by rfl: the kernel then compares nothing -/
theorem obs {α β : Type} (a : α) (f : α → Option β) : (some a).bind f = f a := by
  have h := Option.bind_some a f
  exact h.trans (Eq.refl _)
theorem ip_at (h : Hp) (r j : Nat) (v : Int32) (a b : Nat) : (ip h r j v).1 a b = if a = r ∧ b = j then v else h.1 a b := by
  unfold ip upd
  by_cases ha : a = r
  · subst ha; by_cases hb : b = j <;> simp [hb]
  · simp [ha]
theorem ip_s (h : Hp) (r j : Nat) (v : Int32) : (ip h r j v).1 r j = v := by rw [ip_at]; simp
theorem ip_n (h : Hp) (r j : Nat) (v : Int32) {a b : Nat} (hn : a ≠ r ∨ b ≠ j) : (ip h r j v).1 a b = h.1 a b := by
  rw [ip_at, if_neg]
  rintro ⟨rfl, rfl⟩
  rcases hn with q | q <;> exact q rfl
theorem ip_2 (h : Hp) (r j : Nat) (v : Int32) : (ip h r j v).2 = h.2 := rfl
theorem lp_at (h : Hp) (r j : Nat) (v : Int64) (a b : Nat) : (lp h r j v).2 a b = if a = r ∧ b = j then v else h.2 a b := by
  unfold lp vp_updL
  by_cases ha : a = r
  · subst ha; by_cases hb : b = j <;> simp [hb]
  · simp [ha]
theorem lp_1 (h : Hp) (r j : Nat) (v : Int64) : (lp h r j v).1 = h.1 := rfl
theorem ald_ok {n : Nat} (h : Hp) (r : Nat) {i : Nat} (hi : i < n) (hn : n < 2 ^ 31) : ald n h r (nI i) = some (h.1 r i) := by
  unfold ald
  rw [if_neg (vp_in_nI hi hn), nI_clamp (by omega)]
theorem lald_ok {n : Nat} (h : Hp) (r : Nat) {i : Nat} (hi : i < n) (hn : n < 2 ^ 31) : lald n h r (nI i) = some (h.2 r i) := by
  unfold lald
  rw [if_neg (vp_in_nI hi hn), nI_clamp (by omega)]
theorem ast_ok {n : Nat} (h : Hp) (r : Nat) {i : Nat} (x : Int32) (hi : i < n) (hn : n < 2 ^ 31) : ast n h r (nI i) x = some (ip h r i x) := by
  unfold ast
  rw [if_neg (vp_in_nI hi hn), nI_clamp (by omega)]
theorem last_ok {n : Nat} (h : Hp) (r : Nat) {i : Nat} (x : Int64) (hi : i < n) (hn : n < 2 ^ 31) : last n h r (nI i) x = some (lp h r i x) := by
  unfold last
  rw [if_neg (vp_in_nI hi hn), nI_clamp (by omega)]
theorem zast_ok {n : Nat} (h : Hp) (r : Nat) {i : Nat} (x : Int32) (hx : x = 0 ∨ x = 1) (hi : i < n) (hn : n < 2 ^ 31) : zast n h r (nI i) x = some (ip h r i x) := by
  unfold zast
  rw [if_neg (vp_in_nI hi hn), if_pos hx, nI_clamp (by omega)]
theorem zck_ok {x : Int32} (hx : x = 0 ∨ x = 1) : zck x = some x := by
  unfold zck
  rw [if_pos hx]
/-- a loop that counts up: state k at the head for k = 0 .. N -/
theorem loop_up {σ β : Type} (F : Nat → σ → β) (S : Nat → σ) (N : Nat) (fin : β) (hs : ∀ n k, k < N → F (n + 1) (S k) = F n (S (k + 1))) (he : ∀ n, F (n + 1) (S N) = fin) : ∀ (d k fuel : Nat), k + d = N → d < fuel → F fuel (S k) = fin := by
  intro d
  induction d with
  | zero =>
    intro k fuel hk hf
    obtain ⟨n, rfl⟩ : ∃ n, fuel = n + 1 := ⟨fuel - 1, by omega⟩
    have : k = N := by omega
    subst this
    exact he n
  | succ d ih =>
    intro k fuel hk hf
    obtain ⟨n, rfl⟩ : ∃ n, fuel = n + 1 := ⟨fuel - 1, by omega⟩
    rw [hs n k (by omega)]
    exact ih (k + 1) n (by omega) (by omega)
theorem loop_FU {σ β : Type} (F : Nat → σ → β) (S : Nat → σ) (N : Nat) (fin : β) (hN : N < 100000) (hs : ∀ n k, k < N → F (n + 1) (S k) = F n (S (k + 1))) (he : ∀ n, F (n + 1) (S N) = fin) : F FU (S 0) = fin :=
  loop_up F S N fin hs he N 0 FU (by omega) (by rw [FU_eq]; exact hN)
theorem nI_succ' (k : Nat) : nI k + (1 : Int32) = nI (k + 1) := nI_1 k
theorem le_nI {a b : Nat} (ha : a < 2 ^ 31) (hb : b < 2 ^ 31) : (nI a ≤ nI b) = (a ≤ b) := propext (nI_leI ha hb)
theorem lt_nI {a b : Nat} (ha : a < 2 ^ 31) (hb : b < 2 ^ 31) : (nI a < nI b) = (a < b) := propext (nI_ltI ha hb)
theorem eq_nI {a b : Nat} (ha : a < 2 ^ 31) (hb : b < 2 ^ 31) : (nI a = nI b) = (a = b) := propext (nI_eq ha hb)
/-- an array filled from its beginning -/
def fillH (h : Hp) (r : Nat) (x : Int32) (k : Nat) : Hp := (fun a b => if a = r ∧ b < k then x else h.1 a b, h.2)
theorem fillH_0 (h : Hp) (r : Nat) (x : Int32) : fillH h r x 0 = h := by
  unfold fillH
  simp
theorem fillH_s (h : Hp) (r : Nat) (x : Int32) (k : Nat) : ip (fillH h r x k) r k x = fillH h r x (k + 1) := by
  refine Prod.ext ?_ rfl
  funext a b
  rw [ip_at]
  simp only [fillH]
  by_cases ha : a = r
  · subst ha
    by_cases hb : b = k
    · subst hb; simp
    · by_cases hk : b < k
      · rw [if_neg (by omega), if_pos ⟨rfl, hk⟩, if_pos ⟨rfl, by omega⟩]
      · rw [if_neg (by omega), if_neg (by omega), if_neg (by omega)]
  · simp [ha]
theorem fill_ok (h : Hp) (r n : Nat) (x : Int32) (hn : n < 100000) : f_J7_fill_53178 r n x h = some (fillH h r x n) := by
  rw [f_J7_fill_53178]
  simp only [obs]
  have key := loop_FU (fun f (q : Int32 × Hp) => f_J7_fill_53178_l5 r n x (Int32.ofNat n) (fun (_ : Int32) (h5 : Hp) => some h5) f q.1 q.2) (fun k => (nI k, fillH h r x k)) n (some (fillH h r x n)) hn
    (fun f k hk => by
      show f_J7_fill_53178_l5 r n x (nI n) _ (f + 1) (nI k) (fillH h r x k) = _
      rw [f_J7_fill_53178_l5, if_neg (nI_ge hk (by omega)), ast_ok _ _ _ hk (by omega)]
      simp only [obs]
      rw [fillH_s, nI_succ']
      rfl)
    (fun f => by
      show f_J7_fill_53178_l5 r n x (nI n) _ (f + 1) (nI n) (fillH h r x n) = _
      rw [f_J7_fill_53178_l5, if_pos (nI_le (Nat.le_refl n) (by omega))])
  dsimp only at key
  rw [fillH_0] at key
  exact key
