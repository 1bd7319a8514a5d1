/-! TACKS: the takes that win. -/
def okt (b m : Nat) (T : Nat → Nat) (s : Nat) : Bool := b.testBit (s - 1) && (decide (s ≤ m) && decide (T (m - s) = 0))
def pik (p : Nat → Bool) : Nat → Nat
  | 0 => 0
  | d + 1 => if p (9 - d) = true then 9 - d else pik p d
theorem pik_le (p : Nat → Bool) : ∀ d, pik p d ≤ 9
  | 0 => Nat.zero_le _
  | d + 1 => by
    have := pik_le p d
    rw [pik]
    split <;> omega
theorem pik_none (p : Nat → Bool) : ∀ d, (∀ s, 10 - d ≤ s → p s = false) → d ≤ 9 → pik p d = 0
  | 0, _, _ => rfl
  | d + 1, h, hd => by
    rw [pik, h (9 - d) (by omega), if_neg (by decide)]
    exact pik_none p d (fun s hs => h s (by omega)) (by omega)
def tw (b : Nat) : Nat → Nat → Nat
  | 0 => fun _ => 0
  | m + 1 => fun k => if k = m then pik (okt b m (tw b m)) 9 else tw b m k
theorem tw_le (b : Nat) : ∀ m k, tw b m k ≤ 9 := by
  intro m
  induction m with
  | zero => intro k; exact Nat.zero_le _
  | succ m ih =>
    intro k
    rw [tw]
    show (if k = m then pik (okt b m (tw b m)) 9 else tw b m k) ≤ 9
    split
    · exact pik_le _ _
    · exact ih k
def encT (n : Nat) : Int32 := if n = 0 then -6 else nI n
def TX (h : Hp) (m : Nat) (T : Nat → Nat) : Hp := (fun a k => if a = 39 ∧ k < m then encT (T k) else h.1 a k, h.2)
def TM (h : Hp) (m : Nat) (T : Nat → Nat) : Hp := (fun a k => if a = 10 ∧ k < m then b2 (decide (T k ≠ 0)) else h.1 a k, h.2)
theorem TX_row (h : Hp) (m : Nat) (T : Nat → Nat) {r : Nat} (hr : r ≠ 39) : (TX h m T).1 r = h.1 r := by
  unfold TX
  funext k
  simp [hr]
theorem TM_row (h : Hp) (m : Nat) (T : Nat → Nat) {r : Nat} (hr : r ≠ 10) : (TM h m T).1 r = h.1 r := by
  unfold TM
  funext k
  simp [hr]
theorem TX_at (h : Hp) (m : Nat) (T : Nat → Nat) {k : Nat} (hk : k < m) : (TX h m T).1 39 k = encT (T k) := by
  unfold TX
  simp [hk]
theorem TM_at (h : Hp) (m : Nat) (T : Nat → Nat) {k : Nat} (hk : k < m) : (TM h m T).1 10 k = b2 (decide (T k ≠ 0)) := by
  unfold TM
  simp [hk]
theorem TX_s (h : Hp) (b m : Nat) : ip (TX h m (tw b m)) 39 m (encT (tw b (m + 1) m)) = TX h (m + 1) (tw b (m + 1)) := by
  refine Prod.ext ?_ rfl
  funext a k
  rw [ip_at]
  show (if a = 39 ∧ k = m then encT (tw b (m + 1) m) else if a = 39 ∧ k < m then encT (tw b m k) else h.1 a k) = (if a = 39 ∧ k < m + 1 then encT (tw b (m + 1) k) else h.1 a k)
  by_cases h1 : a = 39 ∧ k = m
  · rw [if_pos h1, if_pos (by omega), h1.2]
  · rw [if_neg h1]
    by_cases h2 : a = 39 ∧ k < m
    · rw [if_pos h2, if_pos (by omega)]
      have : tw b (m + 1) k = tw b m k := by
        rw [tw]
        show (if k = m then _ else _) = _
        rw [if_neg (by omega)]
      rw [this]
    · rw [if_neg h2, if_neg (by omega)]
theorem TM_s (h : Hp) (b m : Nat) : ip (TM h m (tw b m)) 10 m (b2 (decide (tw b (m + 1) m ≠ 0))) = TM h (m + 1) (tw b (m + 1)) := by
  refine Prod.ext ?_ rfl
  funext a k
  rw [ip_at]
  show (if a = 10 ∧ k = m then b2 (decide (tw b (m + 1) m ≠ 0)) else if a = 10 ∧ k < m then b2 (decide (tw b m k ≠ 0)) else h.1 a k) = (if a = 10 ∧ k < m + 1 then b2 (decide (tw b (m + 1) k ≠ 0)) else h.1 a k)
  by_cases h1 : a = 10 ∧ k = m
  · rw [if_pos h1, if_pos (by omega), h1.2]
  · rw [if_neg h1]
    by_cases h2 : a = 10 ∧ k < m
    · rw [if_pos h2, if_pos (by omega)]
      have : tw b (m + 1) k = tw b m k := by
        rw [tw]
        show (if k = m then _ else _) = _
        rw [if_neg (by omega)]
      rw [this]
    · rw [if_neg h2, if_neg (by omega)]
theorem tw_at (b m : Nat) : tw b (m + 1) m = pik (okt b m (tw b m)) 9 := by
  rw [tw]
  show (if m = m then _ else _) = _
  rw [if_pos rfl]
theorem X_take {h : Hp} {b m : Nat} (hb : b < 512) (hm : m < 100) : f_X5_winningTake (nI m) (nI b) (TX h m (tw b m)) = some (encT (pik (okt b m (tw b m)) 9)) := by
  rw [f_X5_winningTake]
  have key : ∀ d, d ≤ 9 → ∀ f, d < f → f_X5_winningTake_l2 (nI m) (nI b) (TX h m (tw b m)) (fun (w5 : Int32) => some (-6 : Int32)) f (nI (10 - d)) = some (encT (pik (okt b m (tw b m)) d)) := by
    intro d
    induction d with
    | zero =>
      intro _ f hf
      obtain ⟨f, rfl⟩ : ∃ f', f = f' + 1 := ⟨f - 1, by omega⟩
      rw [f_X5_winningTake_l2, if_pos (show (9 : Int32) < nI (10 - 0) by decide)]
      rfl
    | succ d ih =>
      intro hd f hf
      obtain ⟨f, rfl⟩ : ∃ f', f = f' + 1 := ⟨f - 1, by omega⟩
      rw [show 10 - (d + 1) = 9 - d by omega, f_X5_winningTake_l2, if_neg (show ¬ (9 : Int32) < nI (9 - d) from nI_nlt (a := 9) (by omega) (by omega))]
      by_cases hle : 9 - d ≤ m
      · rw [if_neg (nI_nlt (by omega) (by omega)), show nI (9 - d) - (1 : Int32) = nI (9 - d - 1) from pk_sub (b := 1) (by omega), holds_ok (by omega) (by omega)]
        simp only [obs]
        have hnext := ih (by omega) f (by omega)
        rw [show 10 - d = 9 - d + 1 by omega] at hnext
        rw [pik]
        unfold okt at hnext ⊢
        cases ht : b.testBit (9 - d - 1) with
        | false =>
          rw [if_pos b2_f, nI_succ', Bool.false_and, if_neg (by decide)]
          exact hnext
        | true =>
          rw [if_neg (show ¬ b2 true = 0 by decide), pk_sub (by omega), at_ok _ _ (show m - (9 - d) < 100 by omega) (by omega), TX_at _ _ _ (by omega), decide_eq_true hle]
          simp only [obs, Bool.true_and]
          have htl := tw_le b m (m - (9 - d))
          by_cases h0 : tw b m (m - (9 - d)) = 0
          · rw [if_pos (show encT (tw b m (m - (9 - d))) = -6 by rw [h0]; rfl), if_pos (by simp [h0])]
            unfold encT
            rw [if_neg (by omega)]
          · have e : encT (tw b m (m - (9 - d))) = nI (tw b m (m - (9 - d))) := by unfold encT; rw [if_neg h0]
            rw [e, if_neg (neg6 (by omega)), nI_succ', if_neg (by simp [h0])]
            exact hnext
      · rw [if_pos (nI_lt (by omega) (by omega)), pik_none _ _ (fun s hs => by
          unfold okt
          rw [decide_eq_false (show ¬ s ≤ m by omega)]
          simp) hd]
        rfl
  exact key 9 (by omega) FU (by rw [FU_eq]; omega)
theorem M_take {T : Type} {h : Hp} {b m : Nat} (hb : b < 512) (hm : m < 100) (s1 s3 : Int32) (kx : Int32 → Int32 → Option T) : f_X6_tacks_l54 s1 (nI b) s3 (nI m) (TM h m (tw b m)) kx FU (-6) 9 = kx (encT (pik (okt b m (tw b m)) 9)) 0 := by
  refine loop_FU (fun f (q : Int32 × Int32) => f_X6_tacks_l54 s1 (nI b) s3 (nI m) (TM h m (tw b m)) kx f q.1 q.2) (fun d => (encT (pik (okt b m (tw b m)) d), nI (9 - d))) 9 _ (by omega) (fun f d hd => ?_) (fun f => ?_)
  · show f_X6_tacks_l54 s1 (nI b) s3 (nI m) (TM h m (tw b m)) kx (f + 1) (encT (pik (okt b m (tw b m)) d)) (nI (9 - d)) = f_X6_tacks_l54 s1 (nI b) s3 (nI m) (TM h m (tw b m)) kx f (encT (pik (okt b m (tw b m)) (d + 1))) (nI (9 - (d + 1)))
    have enx : nI (9 - d) + (-1 : Int32) = nI (9 - (d + 1)) := by
      rw [show 9 - d = 9 - (d + 1) + 1 by omega, nI_dec]
    rw [f_X6_tacks_l54, if_neg (show ¬ nI (9 - d) ≤ 0 from nI_ge (a := 0) (by omega) (by omega)), show nI (9 - d) - (1 : Int32) = nI (9 - d - 1) from pk_sub (b := 1) (by omega), has_ok (by omega) (by omega), enx, pik]
    simp only [obs]
    cases ht : b.testBit (9 - d - 1) with
    | false =>
      rw [if_pos b2_f]
      simp only [obs]
      rw [if_neg (show ¬ okt b m (tw b m) (9 - d) = true by unfold okt; rw [ht]; simp)]
    | true =>
      rw [if_neg (show ¬ b2 true = 0 by decide)]
      by_cases hle : 9 - d ≤ m
      · rw [if_neg (nI_nlt hle (by omega)), pk_sub hle, ald_ok _ _ (show m - (9 - d) < 100 by omega) (by omega), TM_at _ _ _ (by omega)]
        simp only [obs]
        by_cases h0 : tw b m (m - (9 - d)) = 0
        · rw [if_pos (show b2 (decide (tw b m (m - (9 - d)) ≠ 0)) = 0 by rw [h0]; rfl)]
          simp only [obs]
          rw [if_pos (show okt b m (tw b m) (9 - d) = true by unfold okt; simp [ht, hle, h0])]
          unfold encT
          rw [if_neg (by omega)]
        · rw [if_neg (show ¬ b2 (decide (tw b m (m - (9 - d)) ≠ 0)) = 0 by rw [decide_eq_true h0]; decide)]
          simp only [obs]
          rw [if_neg (show ¬ okt b m (tw b m) (9 - d) = true by unfold okt; simp [h0])]
      · rw [if_pos (nI_lt (by omega) (by omega))]
        simp only [obs]
        rw [if_neg (show ¬ okt b m (tw b m) (9 - d) = true by unfold okt; simp [hle])]
  · show f_X6_tacks_l54 s1 (nI b) s3 (nI m) (TM h m (tw b m)) kx (f + 1) _ (nI 0) = _
    rw [f_X6_tacks_l54, if_pos (show nI 0 ≤ 0 by decide)]
    rfl
theorem r_tacks : op_tacks Rl := by
  intro hx hm x1 x2 x3 hr
  rw [f_X5_tacks, f_X6_tacks, wi_eq, wi_eq, wi_eq]
  rcases in_cases x1 0 99 (by omega) (by omega) with ⟨e, -⟩ | ⟨n, -, hn, rfl, e⟩
  · rw [show f_X6_in x1 (0 : Int32) (99 : Int32) = some 0 from e]
    exact ⟨-2, hx, hm, rfl, rfl, hr⟩
  rw [show f_X6_in (nI n) (0 : Int32) (99 : Int32) = some 1 from e]
  simp only [obs, if_neg one_ne]
  rcases in_cases x2 1 511 (by omega) (by omega) with ⟨e2, -⟩ | ⟨b, -, hb, rfl, e2⟩
  · rw [show f_X6_in x2 (1 : Int32) (511 : Int32) = some 0 from e2]
    exact ⟨-2, hx, hm, rfl, rfl, hr⟩
  rw [show f_X6_in (nI b) (1 : Int32) (511 : Int32) = some 1 from e2]
  simp only [obs, if_neg one_ne]
  rcases in_cases x3 0 1 (by omega) (by omega) with ⟨e3, -⟩ | ⟨w, -, hw, rfl, e3⟩
  · rw [show f_X6_in x3 (0 : Int32) (1 : Int32) = some 0 from e3]
    exact ⟨-2, hx, hm, rfl, rfl, hr⟩
  rw [show f_X6_in (nI w) (0 : Int32) (1 : Int32) = some 1 from e3]
  simp only [obs, if_neg one_ne]
  have hX : ∀ (kx : Int32 → Hp → Option (Int32 × Hp)), f_X5_tacks_l36 (nI n) (nI b) (nI w) kx FU 0 hx = kx (nI (n + 1)) (TX hx (n + 1) (tw b (n + 1))) := by
    intro kx
    have key := loop_FU (fun f (q : Int32 × Hp) => f_X5_tacks_l36 (nI n) (nI b) (nI w) kx f q.1 q.2) (fun m => (nI m, TX hx m (tw b m))) (n + 1) (kx (nI (n + 1)) (TX hx (n + 1) (tw b (n + 1)))) (by omega) (fun f m hm => by
        show f_X5_tacks_l36 (nI n) (nI b) (nI w) kx (f + 1) (nI m) (TX hx m (tw b m)) = f_X5_tacks_l36 (nI n) (nI b) (nI w) kx f (nI (m + 1)) (TX hx (m + 1) (tw b (m + 1)))
        rw [f_X5_tacks_l36, if_neg (nI_nlt (by omega) (by omega)), X_take (by omega) (by omega), ← tw_at]
        simp only [obs]
        rw [put_ok _ _ _ (show m < 100 by omega) (by omega), TX_s]
        simp only [obs]
        rw [nI_succ'])
      (fun f => by
        show f_X5_tacks_l36 (nI n) (nI b) (nI w) kx (f + 1) (nI (n + 1)) _ = _
        rw [f_X5_tacks_l36, if_pos (nI_lt (by omega) (by omega))])
    dsimp only at key
    rw [show TX hx 0 (tw b 0) = hx by unfold TX; simp] at key
    exact key
  have hM : ∀ (kx : Int32 → Int32 → Hp → Option (Int32 × Hp)), f_X6_tacks_l40 (nI n) (nI b) (nI w) kx FU (-6) 0 hm = kx (encT (tw b (n + 1) n)) (nI (n + 1)) (TM hm (n + 1) (tw b (n + 1))) := by
    intro kx
    have key := loop_FU (fun f (q : Int32 × Int32 × Hp) => f_X6_tacks_l40 (nI n) (nI b) (nI w) kx f q.1 q.2.1 q.2.2) (fun m => (if m = 0 then (-6 : Int32) else encT (tw b m (m - 1)), nI m, TM hm m (tw b m))) (n + 1) (kx (encT (tw b (n + 1) n)) (nI (n + 1)) (TM hm (n + 1) (tw b (n + 1)))) (by omega) (fun f m hm' => by
        show f_X6_tacks_l40 (nI n) (nI b) (nI w) kx (f + 1) _ (nI m) (TM hm m (tw b m)) = f_X6_tacks_l40 (nI n) (nI b) (nI w) kx f (if m + 1 = 0 then (-6 : Int32) else encT (tw b (m + 1) (m + 1 - 1))) (nI (m + 1)) (TM hm (m + 1) (tw b (m + 1)))
        have hle := tw_le b (m + 1) m
        rw [f_X6_tacks_l40, if_neg (nI_nlt (by omega) (by omega)), M_take (by omega) (by omega), ← tw_at, if_neg (show ¬ m + 1 = 0 by omega), show m + 1 - 1 = m by omega]
        have e : (if encT (tw b (m + 1) m) ≤ 0 then some (0 : Int32) else some (1 : Int32)) = some (b2 (decide (tw b (m + 1) m ≠ 0))) := by
          by_cases h0 : tw b (m + 1) m = 0
          · rw [h0]; rfl
          · unfold encT
            rw [if_neg h0, decide_eq_true h0, if_neg (show ¬ nI (tw b (m + 1) m) ≤ 0 from nI_ge (a := 0) (by omega) (by omega))]
            rfl
        rw [e]
        simp only [obs]
        rw [zast_ok _ _ _ (by cases decide (tw b (m + 1) m ≠ 0) <;> simp [b2]) (show m < 100 by omega) (by omega), TM_s]
        simp only [obs]
        rw [nI_succ'])
      (fun f => by
        show f_X6_tacks_l40 (nI n) (nI b) (nI w) kx (f + 1) (if n + 1 = 0 then (-6 : Int32) else encT (tw b (n + 1) (n + 1 - 1))) (nI (n + 1)) _ = _
        rw [f_X6_tacks_l40, if_pos (nI_lt (by omega) (by omega)), if_neg (show ¬ n + 1 = 0 by omega), show n + 1 - 1 = n by omega])
    dsimp only at key
    rw [show TM hm 0 (tw b 0) = hm by unfold TM; simp, if_pos rfl] at key
    exact key
  rw [hX, hM, at_ok _ _ (show n < 100 by omega) (by omega), TX_at _ _ _ (show n < n + 1 by omega)]
  simp only [obs]
  have hle := tw_le b (n + 1) n
  have hfr : Rl (TX hx (n + 1) (tw b (n + 1))) (TM hm (n + 1) (tw b (n + 1))) := hr.frame (fun r hq => TX_row _ _ _ (by omega)) ⟨fun r hq => TM_row _ _ _ (by omega), fun j hj => by rw [TM_row _ _ _ (by omega)]⟩
  have hw2 : w = 0 ∨ w = 1 := by omega
  rcases hw2 with rfl | rfl
  · rw [if_pos (show nI 0 = 0 from rfl), if_neg (show ¬ nI 0 = 1 by decide)]
    by_cases h0 : tw b (n + 1) n = 0
    · rw [h0]
      exact ⟨0, _, _, rfl, rfl, hfr⟩
    · have ee : encT (tw b (n + 1) n) = nI (tw b (n + 1) n) := by unfold encT; rw [if_neg h0]
      rw [ee, if_neg (neg6 (by omega)), if_neg (show ¬ nI (tw b (n + 1) n) ≤ 0 from nI_ge (a := 0) (by omega) (by omega))]
      exact ⟨1, _, _, rfl, rfl, hfr⟩
  · rw [if_neg (show ¬ nI 1 = 0 by decide), if_pos (show nI 1 = 1 from rfl)]
    exact ⟨_, _, _, rfl, rfl, hfr⟩
