/-! ASK, the reference's tally. -/
theorem M_zero {T : Type} (h : Hp) (s1 s2 s3 s4 s5 s6 : Int32) (v : Nat → Nat) (kx : Int32 → Hp → Option T) : f_X6_ask_l74 s1 s2 s3 s4 s5 s6 kx FU 0 h = kx (nI 600) (CH h 8 600 v 0) := by
  have key := loop_FU (fun f (q : Int32 × Hp) => f_X6_ask_l74 s1 s2 s3 s4 s5 s6 kx f q.1 q.2) (fun k => (nI k, fillH h 8 0 k)) 600 (kx (nI 600) (fillH h 8 0 600)) (by omega) (fun f k hk => by
      show f_X6_ask_l74 s1 s2 s3 s4 s5 s6 kx (f + 1) (nI k) (fillH h 8 0 k) = f_X6_ask_l74 s1 s2 s3 s4 s5 s6 kx f (nI (k + 1)) (fillH h 8 0 (k + 1))
      rw [f_X6_ask_l74, if_neg (show ¬ (600 : Int32) ≤ nI k from nI_ge (b := 600) hk (by omega)), ast_ok _ _ _ hk (by omega), fillH_s]
      simp only [obs]
      rw [nI_succ'])
    (fun f => by
      show f_X6_ask_l74 s1 s2 s3 s4 s5 s6 kx (f + 1) (nI 600) _ = _
      rw [f_X6_ask_l74, if_pos (show (600 : Int32) ≤ nI 600 by decide)])
  dsimp only at key
  rw [fillH_0, CH_0 h 8 600 v] at key
  exact key
theorem M_most {T : Type} {h : Hp} {w : Nat → Nat} {cnt q : Nat} (hq : q < 42) (hc : cnt ≤ 1000) (hw : ∀ i, i < cnt → w i < 1000 ∧ h.1 9 i = nI (w i)) (s1 s3 s4 : Int32) (kx : Int32 → Int32 → Hp → Option T) :
    f_X6_ask_l99 s1 (nI cnt) s3 s4 (nI q) kx FU 0 0 (CH h 8 600 (fun i => rdn (q % 2) (q / 2) (w i)) 0) = kx (nI (mst (fun i => rdn (q % 2) (q / 2) (w i)) cnt)) (nI cnt) (CH h 8 600 (fun i => rdn (q % 2) (q / 2) (w i)) cnt) := by
  refine loop_FU (fun f (z : Int32 × Int32 × Hp) => f_X6_ask_l99 s1 (nI cnt) s3 s4 (nI q) kx f z.1 z.2.1 z.2.2) (fun n => (nI (mst (fun i => rdn (q % 2) (q / 2) (w i)) n), nI n, CH h 8 600 (fun i => rdn (q % 2) (q / 2) (w i)) n)) cnt _ (by omega) (fun f n hn => ?_) (fun f => ?_)
  · show f_X6_ask_l99 s1 (nI cnt) s3 s4 (nI q) kx (f + 1) (nI (mst (fun i => rdn (q % 2) (q / 2) (w i)) n)) (nI n) (CH h 8 600 (fun i => rdn (q % 2) (q / 2) (w i)) n) = f_X6_ask_l99 s1 (nI cnt) s3 s4 (nI q) kx f (nI (mst (fun i => rdn (q % 2) (q / 2) (w i)) (n + 1))) (nI (n + 1)) (CH h 8 600 (fun i => rdn (q % 2) (q / 2) (w i)) (n + 1))
    obtain ⟨w1, w2⟩ := hw n hn
    have hr := rdn_lt (k := q % 2) w1 (show q / 2 ≤ 20 by omega)
    have hr2 : rdn (q % 2) (q / 2) (w n) < 600 := by omega
    have hml := mst_le (fun i => rdn (q % 2) (q / 2) (w i)) n
    have hel := eqc_le (fun i => rdn (q % 2) (q / 2) (w i)) (rdn (q % 2) (q / 2) (w n)) n
    rw [f_X6_ask_l99, if_neg (nI_ge hn (by omega)), ald_ok _ _ (show n < 1000 by omega) (by omega), CH_row _ _ _ _ _ (show 9 ≠ 8 by omega), w2, show irem (nI q) (2 : Int32) = nI (q % 2) from irem_nI (d := 2) (by omega) (by omega) (by omega), show nI q / (2 : Int32) = nI (q / 2) from div_nI (d := 2) (by omega) (by omega) (by omega)]
    simp only [obs]
    rw [tell_v, rdv_n (by omega) (by omega) w1]
    simp only [obs]
    rw [ald_ok _ _ hr2 (by omega), CH_at _ _ _ _ _ hr2]
    simp only [obs]
    rw [nI_succ', ast_ok _ _ _ hr2 (by omega), (CH_s h 8 600 (fun i => rdn (q % 2) (q / 2) (w i)) n).resolve_right (fun z => z hr2)]
    simp only [obs]
    rw [ald_ok _ _ hr2 (by omega), CH_at _ _ _ _ _ hr2, nI_succ']
    simp only [obs]
    have e1 : eqc (fun i => rdn (q % 2) (q / 2) (w i)) (rdn (q % 2) (q / 2) (w n)) (n + 1) = eqc (fun i => rdn (q % 2) (q / 2) (w i)) (rdn (q % 2) (q / 2) (w n)) n + 1 := by
      rw [eqc, if_pos rfl]
    have e2 : mst (fun i => rdn (q % 2) (q / 2) (w i)) (n + 1) = max (mst (fun i => rdn (q % 2) (q / 2) (w i)) n) (eqc (fun i => rdn (q % 2) (q / 2) (w i)) (rdn (q % 2) (q / 2) (w n)) n + 1) := rfl
    rw [e1, e2]
    by_cases hle : eqc (fun i => rdn (q % 2) (q / 2) (w i)) (rdn (q % 2) (q / 2) (w n)) n + 1 ≤ mst (fun i => rdn (q % 2) (q / 2) (w i)) n
    · rw [if_pos (nI_le hle (by omega)), Nat.max_eq_left hle]
      simp only [obs]
    · rw [if_neg (nI_ge (by omega) (by omega)), Nat.max_eq_right (by omega)]
      simp only [obs]
  · show f_X6_ask_l99 s1 (nI cnt) s3 s4 (nI q) kx (f + 1) (nI (mst (fun i => rdn (q % 2) (q / 2) (w i)) cnt)) (nI cnt) _ = _
    rw [f_X6_ask_l99, if_pos (nI_le (Nat.le_refl cnt) (by omega))]
/-- the best question among the first -/
def bst (m : Nat → Nat) : Nat → Nat × Nat
  | 0 => (0, 1001)
  | q + 1 => if (bst m q).2 ≤ m q then bst m q else (q, m q)
theorem bst_le (m : Nat → Nat) : ∀ n q, q < n → (bst m n).2 ≤ m q
  | 0, q, h => absurd h (by omega)
  | n + 1, q, h => by
    rw [bst]
    by_cases e : (bst m n).2 ≤ m n
    · rw [if_pos e]
      by_cases e2 : q = n
      · rw [e2]; exact e
      · exact bst_le m n q (by omega)
    · rw [if_neg e]
      show m n ≤ m q
      by_cases e2 : q = n
      · rw [e2]; exact Nat.le_refl _
      · have := bst_le m n q (by omega)
        omega
theorem bst_lt (m : Nat → Nat) : ∀ n, (bst m n).1 ≤ n ∧ (bst m n).2 ≤ 1001
  | 0 => ⟨Nat.le_refl _, Nat.le_refl _⟩
  | n + 1 => by
    have := bst_lt m n
    rw [bst]
    by_cases e : (bst m n).2 ≤ m n
    · rw [if_pos e]; exact ⟨by omega, this.2⟩
    · rw [if_neg e]
      exact ⟨by show n ≤ n + 1; omega, by show m n ≤ 1001; omega⟩
theorem bst_more (m : Nat → Nat) (hm : ∀ q, 22 ≤ q → ∃ q', q' < 22 ∧ m q = m q') : ∀ n, 22 ≤ n → bst m n = bst m 22 := by
  intro n
  induction n with
  | zero => intro h; omega
  | succ n ih =>
    intro h
    by_cases e : n + 1 = 22
    · rw [e]
    · have h2 := ih (by omega)
      obtain ⟨q', q1, q2⟩ := hm n (by omega)
      have h3 := bst_le m 22 q' q1
      rw [bst, if_pos (by rw [h2, q2]; exact h3), h2]
