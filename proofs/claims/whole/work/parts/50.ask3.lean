/-! ASK, both sides. -/
theorem M_gather {T : Type} {hm : Hp} {p : Nat → Bool} (hp : ∀ (h : Hp), h.1 0 3 = hm.1 0 3 → h.1 3 = hm.1 3 → ∀ g, g < 1000 → f_X6_isFit (nI g) h = some (b2 (p g))) (x1 : Int32) (kx : Int32 → Int32 → Hp → Option T) : f_X6_ask_l16 x1 kx FU 0 0 hm = kx (nI (cu p 1000)) (nI 1000) (GH hm 9 p 1000) := by
  have key := loop_FU (fun f (q : Int32 × Int32 × Hp) => f_X6_ask_l16 x1 kx f q.1 q.2.1 q.2.2) (fun k => (nI (cu p k), nI k, GH hm 9 p k)) 1000 (kx (nI (cu p 1000)) (nI 1000) (GH hm 9 p 1000)) (by omega) (fun f k hk => by
      show f_X6_ask_l16 x1 kx (f + 1) (nI (cu p k)) (nI k) (GH hm 9 p k) = f_X6_ask_l16 x1 kx f (nI (cu p (k + 1))) (nI (k + 1)) (GH hm 9 p (k + 1))
      have hc := cu_le p k
      rw [f_X6_ask_l16, if_neg (show ¬ (1000 : Int32) ≤ nI k from nI_ge (b := 1000) hk (by omega)), hp _ (by rw [GH_row _ _ _ _ (show 0 ≠ 9 by omega)]) (GH_row _ _ _ _ (show 3 ≠ 9 by omega)) k hk]
      simp only [obs]
      cases hq : p k with
      | false => rw [if_pos b2_f, nI_succ', GH_no _ _ _ _ hq, cu, hq, if_neg (by decide)]
      | true =>
        rw [if_neg (show ¬ b2 true = 0 by decide), ast_ok _ _ _ (show cu p k < 1000 by omega) (by omega), GH_yes _ _ _ _ hq]
        simp only [obs]
        rw [nI_succ', nI_succ', cu, hq, if_pos rfl])
    (fun f => by
      show f_X6_ask_l16 x1 kx (f + 1) (nI (cu p 1000)) (nI 1000) _ = _
      rw [f_X6_ask_l16, if_pos (show (1000 : Int32) ≤ nI 1000 by decide)])
  dsimp only at key
  rw [GH_0] at key
  exact key
def vq (w : Nat → Nat) (q : Nat) : Nat → Nat := fun i => rdn (q % 2) (q / 2) (w i)
def mq (w : Nat → Nat) (cnt q : Nat) : Nat := mst (vq w q) cnt
def cod (q : Nat) : Nat := 10 * (q / 2) + q % 2
def HQ (b : Hp) (r N : Nat) (w : Nat → Nat) (cnt : Nat) : Nat → Hp
  | 0 => b
  | q + 1 => CH b r N (vq w q) cnt
theorem HQ_row (b : Hp) (r N : Nat) (w : Nat → Nat) (cnt : Nat) {a : Nat} (ha : a ≠ r) : ∀ q, (HQ b r N w cnt q).1 a = b.1 a
  | 0 => rfl
  | q + 1 => CH_row _ _ _ _ _ ha
theorem HQ_CH (b : Hp) (r N : Nat) (w : Nat → Nat) (cnt : Nat) (u : Nat → Nat) (n : Nat) : ∀ q, CH (HQ b r N w cnt q) r N u n = CH b r N u n
  | 0 => rfl
  | q + 1 => by
    refine Prod.ext ?_ rfl
    funext x y
    show (if x = r ∧ y < N then nI (eqc u y n) else if x = r ∧ y < N then nI (eqc (vq w q) y cnt) else b.1 x y) = (if x = r ∧ y < N then nI (eqc u y n) else b.1 x y)
    split <;> rfl
def sA (m : Nat → Nat) (q : Nat) : Int32 := if q = 0 then -6 else nI (cod (bst m q).1)
def sB (m : Nat → Nat) (q : Nat) : Int32 := if q = 0 then 1000000 else nI (bst m q).2
section ASK
variable {w : Nat → Nat} {cnt : Nat}
theorem bst_1 (m : Nat → Nat) (q : Nat) : (bst m (q + 1)) = if (bst m q).2 ≤ m q then bst m q else (q, m q) := rfl
theorem X_l44 {T : Type} {b : Hp} (hc : cnt ≤ 1000) (hw : ∀ i, i < cnt → w i < 1000 ∧ b.1 37 i = nI (w i)) (s1 : Int32) {d : Nat} (hd : d ≤ 10) (kx : Int32 → Int32 → Int32 → Hp → Option T) :
    f_X5_ask_l44 s1 (nI cnt) (nI d) kx FU (nI (cod (bst (mq w cnt) (2 * d)).1)) (nI (bst (mq w cnt) (2 * d)).2) 0 (HQ b 38 280 w cnt (2 * d)) = kx (nI (cod (bst (mq w cnt) (2 * d + 2)).1)) (nI (bst (mq w cnt) (2 * d + 2)).2) (nI 2) (HQ b 38 280 w cnt (2 * d + 2)) := by
  refine loop_FU (fun f (z : Int32 × Int32 × Int32 × Hp) => f_X5_ask_l44 s1 (nI cnt) (nI d) kx f z.1 z.2.1 z.2.2.1 z.2.2.2) (fun k => (nI (cod (bst (mq w cnt) (2 * d + k)).1), nI (bst (mq w cnt) (2 * d + k)).2, nI k, HQ b 38 280 w cnt (2 * d + k))) 2 _ (by omega) (fun f k hk => ?_) (fun f => ?_)
  · show f_X5_ask_l44 s1 (nI cnt) (nI d) kx (f + 1) (nI (cod (bst (mq w cnt) (2 * d + k)).1)) (nI (bst (mq w cnt) (2 * d + k)).2) (nI k) (HQ b 38 280 w cnt (2 * d + k)) = f_X5_ask_l44 s1 (nI cnt) (nI d) kx f (nI (cod (bst (mq w cnt) (2 * d + k + 1)).1)) (nI (bst (mq w cnt) (2 * d + k + 1)).2) (nI (k + 1)) (HQ b 38 280 w cnt (2 * d + k + 1))
    have hml := mst_le (vq w (2 * d + k)) cnt
    have hbl := (bst_lt (mq w cnt) (2 * d + k)).2
    have ev : (fun i => rdn k d (w i)) = vq w (2 * d + k) := by
      funext i
      unfold vq
      rw [show (2 * d + k) % 2 = k by omega, show (2 * d + k) / 2 = d by omega]
    rw [f_X5_ask_l44, if_neg (show ¬ (1 : Int32) < nI k from nI_nlt (a := 1) (by omega) (by omega)), X_most (k := k) (d := d) (by omega) hd hc (w := w) (fun i hi => ⟨(hw i hi).1, by rw [HQ_row _ _ _ _ _ (show 37 ≠ 38 by omega)]; exact (hw i hi).2⟩), ev, HQ_CH]
    simp only [obs]
    rw [bst_1]
    show (if nI (bst (mq w cnt) (2 * d + k)).2 ≤ nI (mq w cnt (2 * d + k)) then _ else _) = _
    by_cases hle : (bst (mq w cnt) (2 * d + k)).2 ≤ mq w cnt (2 * d + k)
    · rw [if_pos (nI_le hle (by unfold mq; omega)), if_pos hle, nI_succ']
      rfl
    · rw [if_neg (nI_ge (by omega) (by omega)), if_neg hle, show (10 : Int32) = nI 10 from rfl, pk_mul, nI_add, nI_succ']
      have ec : cod (2 * d + k) = 10 * d + k := by unfold cod; omega
      show f_X5_ask_l44 s1 (nI cnt) (nI d) kx f (nI (10 * d + k)) (nI (mq w cnt (2 * d + k))) (nI (k + 1)) _ = f_X5_ask_l44 s1 (nI cnt) (nI d) kx f (nI (cod (2 * d + k))) (nI (mq w cnt (2 * d + k))) (nI (k + 1)) _
      rw [ec]
      rfl
  · show f_X5_ask_l44 s1 (nI cnt) (nI d) kx (f + 1) _ _ (nI 2) _ = _
    rw [f_X5_ask_l44, if_pos (show (1 : Int32) < nI 2 by decide)]
theorem X_l34 {T : Type} {b : Hp} (hc : cnt ≤ 1000) (hw : ∀ i, i < cnt → w i < 1000 ∧ b.1 37 i = nI (w i)) (s1 : Int32) (kx : Int32 → Int32 → Int32 → Hp → Option T) :
    f_X5_ask_l34 s1 (nI cnt) kx FU 0 1001 0 b = kx (nI (cod (bst (mq w cnt) 22).1)) (nI (bst (mq w cnt) 22).2) (nI 11) (HQ b 38 280 w cnt 22) := by
  have key := loop_FU (fun f (z : Int32 × Int32 × Int32 × Hp) => f_X5_ask_l34 s1 (nI cnt) kx f z.1 z.2.1 z.2.2.1 z.2.2.2) (fun k => (nI (cod (bst (mq w cnt) (2 * k)).1), nI (bst (mq w cnt) (2 * k)).2, nI k, HQ b 38 280 w cnt (2 * k))) 11 (kx (nI (cod (bst (mq w cnt) 22).1)) (nI (bst (mq w cnt) 22).2) (nI 11) (HQ b 38 280 w cnt 22)) (by omega)
    (fun f k hk => by
      show f_X5_ask_l34 s1 (nI cnt) kx (f + 1) (nI (cod (bst (mq w cnt) (2 * k)).1)) (nI (bst (mq w cnt) (2 * k)).2) (nI k) (HQ b 38 280 w cnt (2 * k)) = f_X5_ask_l34 s1 (nI cnt) kx f (nI (cod (bst (mq w cnt) (2 * k + 2)).1)) (nI (bst (mq w cnt) (2 * k + 2)).2) (nI (k + 1)) (HQ b 38 280 w cnt (2 * k + 2))
      rw [f_X5_ask_l34, if_neg (show ¬ (10 : Int32) < nI k from nI_nlt (a := 10) (by omega) (by omega)), X_l44 hc hw s1 (show k ≤ 10 by omega)]
      simp only [obs]
      rw [nI_succ'])
    (fun f => by
      show f_X5_ask_l34 s1 (nI cnt) kx (f + 1) _ _ (nI 11) _ = _
      rw [f_X5_ask_l34, if_pos (show (10 : Int32) < nI 11 by decide)])
  dsimp only at key
  rw [Nat.mul_zero, show bst (mq w cnt) 0 = (0, 1001) from rfl] at key
  exact key
theorem M_l57 {T : Type} {b : Hp} (h0 : 0 < cnt) (hc : cnt ≤ 1000) (hw : ∀ i, i < cnt → w i < 1000 ∧ b.1 9 i = nI (w i)) (s1 : Int32) (kx : Int32 → Int32 → Int32 → Hp → Option T) :
    f_X6_ask_l57 s1 (nI cnt) kx FU (-6) 1000000 0 b = kx (nI (cod (bst (mq w cnt) 42).1)) (nI (bst (mq w cnt) 42).2) (nI 42) (HQ b 8 600 w cnt 42) := by
  refine loop_FU (fun f (z : Int32 × Int32 × Int32 × Hp) => f_X6_ask_l57 s1 (nI cnt) kx f z.1 z.2.1 z.2.2.1 z.2.2.2) (fun q => (sA (mq w cnt) q, sB (mq w cnt) q, nI q, HQ b 8 600 w cnt q)) 42 _ (by omega) (fun f q hq => ?_) (fun f => ?_)
  · show f_X6_ask_l57 s1 (nI cnt) kx (f + 1) (sA (mq w cnt) q) (sB (mq w cnt) q) (nI q) (HQ b 8 600 w cnt q) = f_X6_ask_l57 s1 (nI cnt) kx f (sA (mq w cnt) (q + 1)) (sB (mq w cnt) (q + 1)) (nI (q + 1)) (HQ b 8 600 w cnt (q + 1))
    unfold sA sB
    have hml : mq w cnt q ≤ cnt := mst_le (vq w q) cnt
    have hbl := (bst_lt (mq w cnt) q).2
    have hM := fun (kx' : Int32 → Int32 → Hp → Option T) (s3 s4 : Int32) => M_most (h := HQ b 8 600 w cnt q) (w := w) hq hc (fun i hi => ⟨(hw i hi).1, by rw [HQ_row _ _ _ _ _ (show 9 ≠ 8 by omega)]; exact (hw i hi).2⟩) s1 s3 s4 kx'
    rw [f_X6_ask_l57, if_neg (show ¬ (42 : Int32) ≤ nI q from nI_ge (b := 42) hq (by omega)), if_neg (show ¬ nI cnt ≤ 0 from nI_ge (a := 0) h0 (by omega)), M_zero _ _ _ _ _ _ _ (fun i => rdn (q % 2) (q / 2) (w i)), hM]
    rw [show CH (HQ b 8 600 w cnt q) 8 600 (fun i => rdn (q % 2) (q / 2) (w i)) cnt = HQ b 8 600 w cnt (q + 1) from HQ_CH b 8 600 w cnt (vq w q) cnt q, show nI (mst (fun i => rdn (q % 2) (q / 2) (w i)) cnt) = nI (mq w cnt q) from rfl, show nI q / (2 : Int32) = nI (q / 2) from div_nI (d := 2) (by omega) (by omega) (by omega), show irem (nI q) (2 : Int32) = nI (q % 2) from irem_nI (d := 2) (by omega) (by omega) (by omega), show (10 : Int32) = nI 10 from rfl, pk_mul, nI_add, show q / 2 * 10 + q % 2 = cod q by unfold cod; omega, if_neg (show ¬ q + 1 = 0 by omega), if_neg (show ¬ q + 1 = 0 by omega), bst_1, nI_succ']
    by_cases e0 : q = 0
    · rw [if_pos e0, if_pos e0, if_neg (show ¬ (1000000 : Int32) ≤ nI (mq w cnt q) from nI_ge (b := 1000000) (by omega) (by omega)), if_neg (show ¬ (1000000 : Int32) ≤ nI (mq w cnt q) from nI_ge (b := 1000000) (by omega) (by omega))]
      simp only [obs]
      have e1 : ¬ (bst (mq w cnt) q).2 ≤ mq w cnt q := by
        rw [e0] at hml ⊢
        show ¬ 1001 ≤ mq w cnt 0
        omega
      rw [if_neg e1]
    · rw [if_neg e0, if_neg e0]
      by_cases hle : (bst (mq w cnt) q).2 ≤ mq w cnt q
      · rw [if_pos (nI_le hle (by omega)), if_pos (nI_le hle (by omega)), if_pos hle]
        simp only [obs]
      · rw [if_neg (nI_ge (by omega) (by omega)), if_neg (nI_ge (by omega) (by omega)), if_neg hle]
        simp only [obs]
  · show f_X6_ask_l57 s1 (nI cnt) kx (f + 1) (sA (mq w cnt) 42) (sB (mq w cnt) 42) (nI 42) _ = _
    rw [f_X6_ask_l57, if_pos (show (42 : Int32) ≤ nI 42 by decide)]
    unfold sA sB
    rw [if_neg (by omega), if_neg (by omega)]
theorem mq_more (hw : ∀ i, i < cnt → w i < 1000) (q : Nat) (hq : 22 ≤ q) : ∃ q', q' < 22 ∧ mq w cnt q = mq w cnt q' := by
  refine ⟨20 + q % 2, by omega, ?_⟩
  unfold mq
  refine mst_pat (N := cnt) (fun i j hi hj => ?_) cnt (Nat.le_refl _)
  unfold vq
  rw [show (20 + q % 2) % 2 = q % 2 by omega, show (20 + q % 2) / 2 = 10 by omega]
  exact rdn_pat (hw i hi) (hw j hj) (by omega)
end ASK
theorem r_ask : op_ask Rl := by
  intro hx hm x1 hr
  rw [f_X5_ask, f_X6_ask, wi_eq]
  rcases in_cases x1 0 1 (by omega) (by omega) with ⟨e, -⟩ | ⟨z, -, hz, rfl, e⟩
  · rw [show f_X6_in x1 (0 : Int32) (1 : Int32) = some 0 from e]
    exact ⟨-2, hx, hm, rfl, rfl, hr⟩
  rw [show f_X6_in (nI z) (0 : Int32) (1 : Int32) = some 1 from e]
  simp only [obs, if_neg one_ne]
  obtain ⟨p, hpX, hpM⟩ := fits_same hr
  have hc := cu_le p 1000
  rw [X_gather hpX, M_gather hpM]
  simp only [obs]
  have hfX : ∀ q, eqX hx (HQ (GH hx 37 p 1000) 38 280 (nthf p 1000) (cu p 1000) q) := fun q r hq => by rw [HQ_row _ _ _ _ _ (by omega), GH_row _ _ _ _ (by omega)]
  have hfM : ∀ q, eqM hm (HQ (GH hm 9 p 1000) 8 600 (nthf p 1000) (cu p 1000) q) := fun q => ⟨fun r hq => by rw [HQ_row _ _ _ _ _ (by omega), GH_row _ _ _ _ (by omega)], fun j _ => by rw [HQ_row _ _ _ _ _ (by omega), GH_row _ _ _ _ (by omega)]⟩
  by_cases h0 : cu p 1000 = 0
  · rw [if_pos (show nI (cu p 1000) = 0 by rw [h0]; rfl), FU_eq, f_X6_ask_l57, if_neg (show ¬ (42 : Int32) ≤ 0 by decide), if_pos (show nI (cu p 1000) ≤ 0 by rw [h0]; decide), if_pos (show (-6 : Int32) < 0 by decide)]
    exact ⟨-6, _, _, rfl, rfl, hr.frame (hfX 0) (hfM 0)⟩
  · rw [if_neg (nzn (show cu p 1000 < 2 ^ 31 by omega) h0)]
    rw [X_l34 (w := nthf p 1000) (b := GH hx 37 p 1000) hc (fun i hi => ⟨nthf_lt _ _ _ hi, GH_at _ _ _ _ hi⟩), M_l57 (w := nthf p 1000) (b := GH hm 9 p 1000) (by omega) hc (fun i hi => ⟨nthf_lt _ _ _ hi, GH_at _ _ _ _ hi⟩), bst_more _ (mq_more (fun i hi => nthf_lt _ _ _ hi)) 42 (by omega)]
    have hb := bst_lt (mq (nthf p 1000) (cu p 1000)) 22
    have hcd : cod (bst (mq (nthf p 1000) (cu p 1000)) 22).1 < 2 ^ 31 := by unfold cod; omega
    rw [if_neg (nI_pos hcd)]
    by_cases hz0 : z = 0
    · subst hz0
      rw [if_pos (show nI 0 = 0 from rfl), if_pos (show nI 0 = 0 from rfl)]
      exact ⟨_, _, _, rfl, rfl, hr.frame (hfX 22) (hfM 42)⟩
    · rw [if_neg (nzn (show z < 2 ^ 31 by omega) hz0), if_neg (nzn (show z < 2 ^ 31 by omega) hz0)]
      exact ⟨_, _, _, rfl, rfl, hr.frame (hfX 22) (hfM 42)⟩
