/-! STROKES, both sides. -/
def wk (g : Nat → Nat → Bool) (p : Nat) : Nat := if endsN g (rsb g p) 9 = 0 then 0 else max 1 (oddN g (rsb g p) 9 / 2)
def sn (g : Nat → Nat → Bool) : Nat → Nat
  | 0 => 0
  | n + 1 => if (sn g n).testBit n = true then sn g n else sn g n ||| msk (rsb g n) 9
def wn (g : Nat → Nat → Bool) : Nat → Nat
  | 0 => 0
  | n + 1 => if (sn g n).testBit n = true then wn g n else wn g n + wk g n
theorem sn_lt (g : Nat → Nat → Bool) : ∀ n, sn g n < 512
  | 0 => by rw [sn]; omega
  | n + 1 => by
    rw [sn]
    split
    · exact sn_lt g n
    · exact Nat.or_lt_two_pow (n := 9) (sn_lt g n) (msk_lt _ 9)
theorem wk_le (g : Nat → Nat → Bool) (p : Nat) : wk g p ≤ 4 := by
  have := oddN_le g (rsb g p) (n := 9) (by omega)
  unfold wk
  split <;> omega
theorem wk_alt {g : Nat → Nat → Bool} (hs : ∀ i j, i < 9 → j < 9 → g i j = g j i) (hd : ∀ i, i < 9 → g i i = false) {p : Nat} (hp : p < 9) : wk g p = if pcn (msk (rsb g p) 9) 9 = 1 then 0 else if oddN g (rsb g p) 9 = 0 then 1 else oddN g (rsb g p) 9 / 2 := by
  have h1 := odd_even hs hd hp
  have h2 := ends_one hd hp
  unfold wk
  by_cases e : endsN g (rsb g p) 9 = 0
  · rw [if_pos e, if_pos (h2.mp e)]
  · rw [if_neg e, if_neg (fun q => e (h2.mpr q))]
    split <;> omega
theorem imax_nI {a b : Nat} (ha : a < 2 ^ 31) (hb : b < 2 ^ 31) : imax (nI a) (nI b) = nI (max a b) := by
  unfold imax
  by_cases h : a < b
  · rw [if_pos (nI_lt h hb), Nat.max_eq_right (by omega)]
  · rw [if_neg (nI_nlt (by omega) (by omega)), Nat.max_eq_left (by omega)]
section STROKES
variable {h : Hp}
theorem X_walks (hd : ∀ i, i < 9 → h.1 2 (9 * i + i) = -6) {P : Nat → Bool} : f_X5_walksWithin (nI (msk P 9)) h = some (nI (if endsN (opn (h.1 2)) P 9 = 0 then 0 else max 1 (oddN (opn (h.1 2)) P 9 / 2))) := by
  rw [f_X5_walksWithin]
  refine loop_FU (fun f (q : Int32 × Int32 × Int32) => f_X5_walksWithin_l7 (nI (msk P 9)) h (fun (w8 : Int32) (w9 : Int32) (w10 : Int32) => if w8 = 0 then (some (0 : Int32)) else (some (imax (1 : Int32) (w9 / (2 : Int32))))) f q.1 q.2.1 q.2.2) (fun k => (nI (endsN (opn (h.1 2)) P k), nI (oddN (opn (h.1 2)) P k), nI k)) 9 _ (by omega) (fun f k hk => ?_) (fun f => ?_)
  · show f_X5_walksWithin_l7 (nI (msk P 9)) h _ (f + 1) (nI (endsN (opn (h.1 2)) P k)) (nI (oddN (opn (h.1 2)) P k)) (nI k) = f_X5_walksWithin_l7 (nI (msk P 9)) h _ f (nI (endsN (opn (h.1 2)) P (k + 1))) (nI (oddN (opn (h.1 2)) P (k + 1))) (nI (k + 1))
    have e1 : endsN (opn (h.1 2)) P (k + 1) = endsN (opn (h.1 2)) P k + (if P k = true then degN (opn (h.1 2)) k else 0) := rfl
    have e2 : oddN (opn (h.1 2)) P (k + 1) = oddN (opn (h.1 2)) P k + (if P k = true then degN (opn (h.1 2)) k % 2 else 0) := rfl
    rw [e1, e2]
    have hdg := degN_le (opn (h.1 2)) k
    rw [f_X5_walksWithin_l7, if_neg (g9 hk), holds_ok (by have := msk_lt P 9; omega) (by omega), msk_bit, decide_eq_true hk, Bool.true_and]
    simp only [obs]
    cases hP : P k with
    | false =>
      rw [if_pos b2_f, if_neg (by decide), if_neg (by decide), nI_succ', Nat.add_zero (endsN (opn (h.1 2)) P k), Nat.add_zero (oddN (opn (h.1 2)) P k)]
    | true =>
      rw [if_neg (show ¬ b2 true = 0 by decide), if_pos rfl, if_pos rfl, X_openFrom 1 h hk hd]
      simp only [obs]
      rw [bitCount_ok _ (msk_lt _ 9)]
      simp only [obs]
      show f_X5_walksWithin_l7 (nI (msk P 9)) h _ f (nI (endsN (opn (h.1 2)) P k) + nI (degN (opn (h.1 2)) k)) (nI (oddN (opn (h.1 2)) P k) + irem (nI (degN (opn (h.1 2)) k)) (2 : Int32)) (nI k + 1) = _
      rw [show irem (nI (degN (opn (h.1 2)) k)) (2 : Int32) = nI (degN (opn (h.1 2)) k % 2) from irem_nI (d := 2) (by omega) (by omega) (by omega), nI_add, nI_add, nI_succ']
  · show f_X5_walksWithin_l7 (nI (msk P 9)) h _ (f + 1) (nI (endsN (opn (h.1 2)) P 9)) (nI (oddN (opn (h.1 2)) P 9)) (nI 9) = _
    have h1 := endsN_le (opn (h.1 2)) P (n := 9) (by omega)
    have h2 := oddN_le (opn (h.1 2)) P (n := 9) (by omega)
    rw [f_X5_walksWithin_l7, if_pos e9]
    by_cases e : endsN (opn (h.1 2)) P 9 = 0
    · rw [if_pos e, e, if_pos (show nI 0 = 0 from rfl)]; rfl
    · rw [if_neg e, if_neg (nzn (show endsN (opn (h.1 2)) P 9 < 2 ^ 31 by omega) e), show nI (oddN (opn (h.1 2)) P 9) / (2 : Int32) = nI (oddN (opn (h.1 2)) P 9 / 2) from div_nI (d := 2) (by omega) (by omega) (by omega), show imax (1 : Int32) (nI (oddN (opn (h.1 2)) P 9 / 2)) = nI (max 1 (oddN (opn (h.1 2)) P 9 / 2)) from imax_nI (a := 1) (by omega) (by omega)]
theorem X_strokes (hd : ∀ i, i < 9 → h.1 2 (9 * i + i) = -6) : f_X5_strokes h = some (nI (wn (opn (h.1 2)) 9)) := by
  rw [f_X5_strokes]
  refine loop_FU (fun f (q : Int32 × Int32 × Int32) => f_X5_strokes_l6 h (fun (w8 : Int32) (w9 : Int32) (w10 : Int32) => some w8) f q.1 q.2.1 q.2.2) (fun k => (nI (wn (opn (h.1 2)) k), nI (sn (opn (h.1 2)) k), nI k)) 9 _ (by omega) (fun f k hk => ?_) (fun f => ?_)
  · show f_X5_strokes_l6 h _ (f + 1) (nI (wn (opn (h.1 2)) k)) (nI (sn (opn (h.1 2)) k)) (nI k) = f_X5_strokes_l6 h _ f (nI (wn (opn (h.1 2)) (k + 1))) (nI (sn (opn (h.1 2)) (k + 1))) (nI (k + 1))
    rw [f_X5_strokes_l6, if_neg (g9 hk), holds_ok (by have := sn_lt (opn (h.1 2)) k; omega) (by omega), wn, sn]
    simp only [obs]
    cases ht : (sn (opn (h.1 2)) k).testBit k with
    | true => rw [if_neg (show ¬ b2 true = 0 by decide), if_pos rfl, if_pos rfl, nI_succ']
    | false =>
      rw [if_pos b2_f, if_neg (by decide), if_neg (by decide), X_joined (a := 1) hd hk]
      simp only [obs]
      rw [show f_X5_walksWithin (nI (msk (rsb (opn (h.1 (1 + 1))) k) 9)) h = some (nI (wk (opn (h.1 2)) k)) from X_walks hd]
      simp only [obs]
      rw [nI_or, nI_add, nI_succ']
  · show f_X5_strokes_l6 h _ (f + 1) _ _ (nI 9) = _
    rw [f_X5_strokes_l6, if_pos e9]
theorem M_odd {T : Type} {g : Nat → Nat → Bool} (hg : ∀ u, u < 9 → msk (opn (h.1 2) u) 9 = msk (g u) 9) {P : Nat → Bool} (s1 s2 s3 : Int32) (kx : Int32 → Int32 → Option T) : f_X6_strokes_l37 s1 s2 s3 (nI (msk P 9)) h kx FU 0 0 = kx (nI (oddN g P 9)) (nI 9) := by
  refine loop_FU (fun f (q : Int32 × Int32) => f_X6_strokes_l37 s1 s2 s3 (nI (msk P 9)) h kx f q.1 q.2) (fun k => (nI (oddN g P k), nI k)) 9 _ (by omega) (fun f k hk => ?_) (fun f => ?_)
  · show f_X6_strokes_l37 s1 s2 s3 (nI (msk P 9)) h kx (f + 1) (nI (oddN g P k)) (nI k) = f_X6_strokes_l37 s1 s2 s3 (nI (msk P 9)) h kx f (nI (oddN g P (k + 1))) (nI (k + 1))
    have e2 : oddN g P (k + 1) = oddN g P k + (if P k = true then degN g k % 2 else 0) := rfl
    rw [e2]
    have hdg := degN_le g k
    rw [f_X6_strokes_l37, if_neg (g9 hk), has_ok (by have := msk_lt P 9; omega) (by omega), msk_bit, decide_eq_true hk, Bool.true_and]
    simp only [obs]
    cases hP : P k with
    | false =>
      rw [if_pos b2_f, if_neg (by decide)]
      simp only [obs]
      rw [nI_succ', Nat.add_zero (oddN g P k), Int32.add_zero]
    | true =>
      rw [if_neg (show ¬ b2 true = 0 by decide), if_pos rfl, M_openFrom h hk, hg k hk]
      simp only [obs]
      rw [bits_ok (msk_lt _ 9)]
      simp only [obs]
      show f_X6_strokes_l37 s1 s2 s3 (nI (msk P 9)) h kx f (nI (oddN g P k) + irem (nI (degN g k)) (2 : Int32)) (nI k + 1) = _
      rw [show irem (nI (degN g k)) (2 : Int32) = nI (degN g k % 2) from irem_nI (d := 2) (by omega) (by omega) (by omega), nI_add, nI_succ']
  · show f_X6_strokes_l37 s1 s2 s3 (nI (msk P 9)) h kx (f + 1) _ (nI 9) = _
    rw [f_X6_strokes_l37, if_pos e9]
theorem M_strokes {T : Type} {g : Nat → Nat → Bool} (hgo : ∀ u v, u < 9 → v < 9 → opn (h.1 2) u v = g u v) (hs : ∀ i j, i < 9 → j < 9 → g i j = g j i) (hd : ∀ i, i < 9 → g i i = false) (kx : Int32 → Int32 → Int32 → Option T) : f_X6_strokes_l10 h kx FU 0 0 0 = kx (nI (wn g 9)) (nI (sn g 9)) (nI 9) := by
  have hg : ∀ u, u < 9 → msk (opn (h.1 2) u) 9 = msk (g u) 9 := fun u hu => msk_congr (fun v hv => hgo u v hu hv)
  refine loop_FU (fun f (q : Int32 × Int32 × Int32) => f_X6_strokes_l10 h kx f q.1 q.2.1 q.2.2) (fun k => (nI (wn g k), nI (sn g k), nI k)) 9 _ (by omega) (fun f k hk => ?_) (fun f => ?_)
  · show f_X6_strokes_l10 h kx (f + 1) (nI (wn g k)) (nI (sn g k)) (nI k) = f_X6_strokes_l10 h kx f (nI (wn g (k + 1))) (nI (sn g (k + 1))) (nI (k + 1))
    rw [f_X6_strokes_l10, if_neg (g9 hk), has_ok (by have := sn_lt g k; omega) (by omega), wn, sn]
    simp only [obs]
    cases ht : (sn g k).testBit k with
    | true => rw [if_neg (show ¬ b2 true = 0 by decide), if_pos rfl, if_pos rfl, nI_succ']
    | false =>
      have hod := oddN_le g (rsb g k) (n := 9) (by omega)
      rw [if_pos b2_f, if_neg (by decide), if_neg (by decide), M_part h hk, msk_congr (fun v hv => rsb_congr (i := k) hgo hv)]
      simp only [obs]
      rw [M_odd hg, bits_ok (msk_lt _ 9)]
      simp only [obs]
      rw [nI_or, nI_succ']
      have e : (if nI (pcn (msk (rsb g k) 9) 9) = (1 : Int32) then some (0 : Int32) else (if nI (oddN g (rsb g k) 9) = 0 then some (1 : Int32) else some (nI (oddN g (rsb g k) 9) / (2 : Int32)))) = some (nI (wk g k)) := by
        have hpc : pcn (msk (rsb g k) 9) 9 ≤ 9 := by
          rw [pcn_msk _ 9 (Nat.le_refl _)]
          exact sN_le (b := 1) (fun j _ => by cases rsb g k j <;> decide)
        rw [wk_alt hs hd hk]
        by_cases e1 : pcn (msk (rsb g k) 9) 9 = 1
        · rw [if_pos e1, if_pos (by rw [e1]; rfl)]; rfl
        · rw [if_neg e1, if_neg (show ¬ nI (pcn (msk (rsb g k) 9) 9) = (1 : Int32) from fun q => e1 ((nI_eq (b := 1) (by omega) (by omega)).mp q))]
          by_cases e2 : oddN g (rsb g k) 9 = 0
          · rw [if_pos e2, if_pos (by rw [e2]; rfl)]; rfl
          · rw [if_neg e2, if_neg (nzn (show oddN g (rsb g k) 9 < 2 ^ 31 by omega) e2), show nI (oddN g (rsb g k) 9) / (2 : Int32) = nI (oddN g (rsb g k) 9 / 2) from div_nI (d := 2) (by omega) (by omega) (by omega)]
      rw [e]
      simp only [obs]
      rw [nI_add]
  · show f_X6_strokes_l10 h kx (f + 1) _ _ (nI 9) = _
    rw [f_X6_strokes_l10, if_pos e9]
end STROKES
theorem r_strokes : op_strokes Rl := by
  intro hx hm hr
  obtain ⟨⟨t, ht, hS⟩, -⟩ := id hr
  obtain ⟨hm1, b1, b2, b3, b4, b5, b6⟩ := M_asNow hm
  have hRM : ∀ k, k < 81 → hm1.1 2 k = hx.1 2 k := fun k hk => by rw [b2 k (by omega)]; exact (hS.1 k hk).symm
  rw [X_strokes hS.diag, f_X6_strokes, b1]
  simp only [obs]
  rw [M_strokes (g := opn (hx.1 2)) (fun u v hu hv => by unfold opn; rw [hRM _ (by omega)]) (fun i j hi hj => by unfold opn; rw [hS.2.1.1 i j hi hj]) (fun i hi => by unfold opn; rw [hS.diag i hi]; decide)]
  exact ⟨_, hm1, rfl, rfl, hr.frame (eqX.rf _) (eqM_asNow b5 b6)⟩
