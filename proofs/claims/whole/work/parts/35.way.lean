/-! LEAST WAYS, both sides. -/
def cst (R : Nat → Int32) (w : Nat) (i j : Nat) : Nat := if opn R i j = true then (if w = 0 then 1 else (R (9 * i + j)).toInt.toNat) else 1000000
theorem opn_is {R : Nat → Int32} {i j : Nat} (h : opn R i j = true) : ∃ k : Nat, k ≤ 8 ∧ R (9 * i + j) = nI k := by
  obtain ⟨k, -, k1, k2⟩ := inb_nI (a := 0) (b := 8) (by omega) (by omega) (show inb (R (9 * i + j)) (nI 0) (nI 8) = true from h)
  exact ⟨k, k1, k2⟩
theorem cst_no {R : Nat → Int32} (w : Nat) {i j : Nat} (h : opn R i j = false) : cst R w i j = 1000000 := by
  unfold cst
  rw [h, if_neg (by decide)]
theorem cst_1 {R : Nat → Int32} {i j : Nat} (h : opn R i j = true) : cst R 0 i j = 1 := by
  unfold cst
  rw [if_pos h, if_pos rfl]
theorem cst_w {R : Nat → Int32} {i j k : Nat} (h : opn R i j = true) (hk : k ≤ 8) (e : R (9 * i + j) = nI k) : cst R 1 i j = k := by
  unfold cst
  rw [if_pos h, if_neg (by decide), e, nI_toInt (by omega)]
  rfl
theorem cst_le {R : Nat → Int32} {w i j : Nat} (hw : w ≤ 1) (h : opn R i j = true) : cst R w i j ≤ 8 := by
  obtain ⟨k, k1, k2⟩ := opn_is h
  have h2 : w = 0 ∨ w = 1 := by omega
  rcases h2 with rfl | rfl
  · rw [cst_1 h]; omega
  · rw [cst_w h k1 k2]; exact k1
def d0 (a : Nat) : Nat → Nat := fun v => if v = a then 0 else 1000000
theorem gs_inf (c : Nat → Nat → Nat) (a n v : Nat) : gs c (d0 a) n v ≤ 1000000 := by
  have h := gs_mono c (d0 a) v 0 n (by omega)
  have h2 : gs c (d0 a) 0 v ≤ 1000000 := by
    show d0 a v ≤ 1000000
    unfold d0
    split <;> omega
  omega
theorem gs_fin {R : Nat → Int32} {w : Nat} (hw : w ≤ 1) (a : Nat) : ∀ n v, gs (cst R w) (d0 a) n v = 1000000 ∨ gs (cst R w) (d0 a) n v ≤ 8 * n := by
  intro n
  induction n with
  | zero =>
    intro v
    show d0 a v = 1000000 ∨ d0 a v ≤ 8 * 0
    unfold d0
    split
    · exact Or.inr (by omega)
    · exact Or.inl rfl
  | succ n ih =>
    intro v
    rw [gs]
    unfold rlx
    by_cases e : v = n % 9
    · rw [if_pos e, ← e]
      have h1 := ih v
      have h2 := ih (n / 9 % 9)
      have h3 := gs_inf (cst R w) a n v
      have h4 : cst R w (n / 9 % 9) v = 1000000 ∨ cst R w (n / 9 % 9) v ≤ 8 := by
        cases ho : opn R (n / 9 % 9) v with
        | false => exact Or.inl (cst_no w ho)
        | true => exact Or.inr (cst_le hw ho)
      omega
    · rw [if_neg e]
      have := ih v
      omega
def WM (h : Hp) (m : Nat) (D : Nat → Nat) : Hp := (fun a b => if a = 5 ∧ b < m then nI (D b) else h.1 a b, h.2)
theorem WM_row (h : Hp) (m : Nat) (D : Nat → Nat) {r : Nat} (hr : r ≠ 5) : (WM h m D).1 r = h.1 r := by
  unfold WM
  funext b
  simp [hr]
theorem WM_at (h : Hp) (m : Nat) (D : Nat → Nat) {b : Nat} (hb : b < m) : (WM h m D).1 5 b = nI (D b) := by
  unfold WM
  simp [hb]
theorem WM_put (h : Hp) (D : Nat → Nat) {j : Nat} (hj : j < 9) (v : Nat) : ip (WM h 9 D) 5 j (nI v) = WM h 9 (fun k => if k = j then v else D k) := by
  refine Prod.ext ?_ rfl
  funext a b
  rw [ip_at]
  simp only [WM]
  by_cases ha : a = 5
  · by_cases hb : b = j
    · subst hb; simp [ha, hj]
    · simp [ha, hb]
  · simp [ha]
theorem WM_0 (h : Hp) (D : Nat → Nat) : WM h 0 D = h := by
  unfold WM
  simp
theorem WM_s (h : Hp) (D : Nat → Nat) (k : Nat) : ip (WM h k D) 5 k (nI (D k)) = WM h (k + 1) D := by
  refine Prod.ext ?_ rfl
  funext a b
  rw [ip_at]
  simp only [WM]
  by_cases ha : a = 5
  · by_cases hb : b = k
    · subst hb; simp [ha]
    · by_cases hk : b < k
      · rw [if_neg (by omega), if_pos ⟨ha, hk⟩, if_pos ⟨ha, by omega⟩]
      · rw [if_neg (by omega), if_neg (by omega), if_neg (by omega)]
  · simp [ha]
section WAY
variable {R : Nat → Int32} {w : Nat} {a : Nat}
theorem M_l90 {T : Type} (hw : w ≤ 1) (h : Hp) (hR : ∀ k, k < 81 → h.1 2 k = R k) (s2 s4 : Int32) {r i : Nat} (hi : i < 9) (kx : Int32 → Hp → Option T) :
    f_X6_way_l90 s2 (nI w) s4 (nI i) kx FU 0 (WM h 9 (gs (cst R w) (d0 a) (81 * r + 9 * i))) = kx (nI 9) (WM h 9 (gs (cst R w) (d0 a) (81 * r + 9 * i + 9))) := by
  refine loop_FU (fun f (q : Int32 × Hp) => f_X6_way_l90 s2 (nI w) s4 (nI i) kx f q.1 q.2) (fun k => (nI k, WM h 9 (gs (cst R w) (d0 a) (81 * r + 9 * i + k)))) 9 _ (by omega) (fun f k hk => ?_) (fun f => ?_)
  · show f_X6_way_l90 s2 (nI w) s4 (nI i) kx (f + 1) (nI k) (WM h 9 (gs (cst R w) (d0 a) (81 * r + 9 * i + k))) = f_X6_way_l90 s2 (nI w) s4 (nI i) kx f (nI (k + 1)) (WM h 9 (gs (cst R w) (d0 a) (81 * r + 9 * i + k + 1)))
    rw [gs, show (81 * r + 9 * i + k) / 9 % 9 = i by omega, show (81 * r + 9 * i + k) % 9 = k by omega]
    have hk1 := gs_inf (cst R w) a (81 * r + 9 * i + k) k
    have hi1 := gs_inf (cst R w) a (81 * r + 9 * i + k) i
    generalize gs (cst R w) (d0 a) (81 * r + 9 * i + k) = D at hk1 hi1
    rw [f_X6_way_l90, if_neg (g9 hk), M_isOpen _ hi hk, WM_row _ _ _ (show 2 ≠ 5 by omega)]
    have ho : opn (h.1 2) i k = opn R i k := by
      unfold opn
      rw [hR _ (by omega)]
    rw [ho]
    simp only [obs]
    rw [ald_ok _ _ hk (by omega), ald_ok _ _ hi (by omega), WM_at _ _ _ hk, WM_at _ _ _ hi, ix9', ald_ok _ _ (show 9 * i + k < 89 by omega) (by omega), WM_row _ _ _ (show 2 ≠ 5 by omega), hR _ (show 9 * i + k < 81 by omega), nI_succ']
    simp only [obs]
    cases hoo : opn R i k with
    | false =>
      rw [if_pos b2_f]
      simp only [obs]
      rw [if_pos (show nI (D k) ≤ (1000000 : Int32) from nI_le (b := 1000000) hk1 (by omega))]
      simp only [obs]
      rw [ast_ok _ _ _ hk (by omega), WM_put _ _ hk]
      simp only [obs]
      have e : rlx (cst R w) D i k = (fun q => if q = k then D k else D q) := by
        funext q
        unfold rlx
        rw [cst_no w hoo, Nat.min_eq_left (by omega)]
      rw [e]
    | true =>
      have hc := cst_le hw hoo
      have e : (if nI w = 0 then some (nI (D i) + (1 : Int32)) else some (nI (D i) + R (9 * i + k))) = some (nI (D i + cst R w i k)) := by
        have h2 : w = 0 ∨ w = 1 := by omega
        rcases h2 with rfl | rfl
        · rw [if_pos (show nI 0 = 0 from rfl), cst_1 hoo, nI_succ']
        · obtain ⟨q, q1, q2⟩ := opn_is hoo
          rw [if_neg (show ¬ nI 1 = 0 by decide), cst_w hoo q1 q2, q2, nI_add]
      rw [if_neg (show ¬ b2 true = 0 by decide)]
      first
        | rw [e]
        | rw [nI_succ'] at e; rw [e]
      simp only [obs]
      by_cases hle : D k ≤ D i + cst R w i k
      · rw [if_pos (nI_le hle (by omega))]
        simp only [obs]
        rw [ast_ok _ _ _ hk (by omega), WM_put _ _ hk]
        simp only [obs]
        have e2 : rlx (cst R w) D i k = (fun q => if q = k then D k else D q) := by
          funext q
          unfold rlx
          rw [Nat.min_eq_left hle]
        rw [e2]
      · rw [if_neg (nI_ge (by omega) (by omega))]
        simp only [obs]
        rw [ast_ok _ _ _ hk (by omega), WM_put _ _ hk]
        simp only [obs]
        have e2 : rlx (cst R w) D i k = (fun q => if q = k then D i + cst R w i k else D q) := by
          funext q
          unfold rlx
          rw [Nat.min_eq_right (by omega)]
        rw [e2]
  · show f_X6_way_l90 s2 (nI w) s4 (nI i) kx (f + 1) (nI 9) _ = _
    rw [f_X6_way_l90, if_pos e9]
theorem M_l80 {T : Type} (hw : w ≤ 1) (h : Hp) (hR : ∀ k, k < 81 → h.1 2 k = R k) (s2 s4 : Int32) (r : Nat) (kx : Int32 → Hp → Option T) :
    f_X6_way_l80 s2 (nI w) s4 kx FU 0 (WM h 9 (gs (cst R w) (d0 a) (81 * r))) = kx (nI 9) (WM h 9 (gs (cst R w) (d0 a) (81 * (r + 1)))) := by
  refine loop_FU (fun f (q : Int32 × Hp) => f_X6_way_l80 s2 (nI w) s4 kx f q.1 q.2) (fun k => (nI k, WM h 9 (gs (cst R w) (d0 a) (81 * r + 9 * k)))) 9 _ (by omega) (fun f k hk => ?_) (fun f => ?_)
  · show f_X6_way_l80 s2 (nI w) s4 kx (f + 1) (nI k) (WM h 9 (gs (cst R w) (d0 a) (81 * r + 9 * k))) = f_X6_way_l80 s2 (nI w) s4 kx f (nI (k + 1)) (WM h 9 (gs (cst R w) (d0 a) (81 * r + 9 * k + 9)))
    rw [f_X6_way_l80, if_neg (g9 hk), M_l90 hw h hR s2 s4 hk]
    simp only [obs]
    rw [nI_succ']
  · show f_X6_way_l80 s2 (nI w) s4 kx (f + 1) (nI 9) (WM h 9 (gs (cst R w) (d0 a) (81 * r + 81))) = _
    rw [f_X6_way_l80, if_pos e9]
    rfl
theorem M_l70 {T : Type} (hw : w ≤ 1) (h : Hp) (hR : ∀ k, k < 81 → h.1 2 k = R k) (s2 : Int32) (kx : Int32 → Hp → Option T) :
    f_X6_way_l70 s2 (nI w) kx FU 0 (WM h 9 (d0 a)) = kx (nI 9) (WM h 9 (gs (cst R w) (d0 a) (81 * 9))) := by
  refine loop_FU (fun f (q : Int32 × Hp) => f_X6_way_l70 s2 (nI w) kx f q.1 q.2) (fun k => (nI k, WM h 9 (gs (cst R w) (d0 a) (81 * k)))) 9 _ (by omega) (fun f k hk => ?_) (fun f => ?_)
  · show f_X6_way_l70 s2 (nI w) kx (f + 1) (nI k) (WM h 9 (gs (cst R w) (d0 a) (81 * k))) = f_X6_way_l70 s2 (nI w) kx f (nI (k + 1)) (WM h 9 (gs (cst R w) (d0 a) (81 * (k + 1))))
    rw [f_X6_way_l70, if_neg (g9 hk), M_l80 hw h hR s2 (nI k) k]
    simp only [obs]
    rw [nI_succ']
  · show f_X6_way_l70 s2 (nI w) kx (f + 1) (nI 9) _ = _
    rw [f_X6_way_l70, if_pos e9]
theorem M_l35 {T : Type} (h : Hp) (ha : a < 9) (s2 s3 : Int32) (kx : Int32 → Hp → Option T) : f_X6_way_l35 (nI a) s2 s3 kx FU 0 h = kx (nI 9) (WM h 9 (d0 a)) := by
  have key := loop_FU (fun f (q : Int32 × Hp) => f_X6_way_l35 (nI a) s2 s3 kx f q.1 q.2) (fun k => (nI k, WM h k (d0 a))) 9 (kx (nI 9) (WM h 9 (d0 a))) (by omega) (fun f k hk => by
      show f_X6_way_l35 (nI a) s2 s3 kx (f + 1) (nI k) (WM h k (d0 a)) = f_X6_way_l35 (nI a) s2 s3 kx f (nI (k + 1)) (WM h (k + 1) (d0 a))
      rw [f_X6_way_l35, if_neg (g9 hk)]
      have e : (if nI k = nI a then some (0 : Int32) else some (1000000 : Int32)) = some (nI (d0 a k)) := by
        unfold d0
        by_cases e : k = a
        · rw [if_pos e, if_pos (by rw [e])]; rfl
        · rw [if_neg e, if_neg (fun q => e ((nI_eq (by omega) (by omega)).mp q))]; rfl
      rw [e]
      simp only [obs]
      rw [ast_ok _ _ _ hk (by omega), WM_s]
      simp only [obs]
      rw [nI_succ'])
    (fun f => by
      show f_X6_way_l35 (nI a) s2 s3 kx (f + 1) (nI 9) _ = _
      rw [f_X6_way_l35, if_pos e9])
  dsimp only at key
  rw [WM_0] at key
  exact key
theorem rlx_at (c : Nat → Nat → Nat) (D : Nat → Nat) (i j : Nat) : rlx c D i j i = D i := by
  unfold rlx
  by_cases e : i = j
  · rw [if_pos e, ← e, Nat.min_eq_left (by omega)]
  · rw [if_neg e]
theorem gs_from (c : Nat → Nat → Nat) (D : Nat → Nat) (r : Nat) {i : Nat} (hi : i < 9) : ∀ k, k ≤ 9 → gs c D (81 * r + 9 * i + k) i = gs c D (81 * r + 9 * i) i := by
  intro k
  induction k with
  | zero => intro _; rfl
  | succ k ih =>
    intro hk
    show gs c D (81 * r + 9 * i + k + 1) i = _
    rw [gs, show (81 * r + 9 * i + k) / 9 % 9 = i by omega, rlx_at]
    exact ih (by omega)
theorem gs_skip (c : Nat → Nat → Nat) (r : Nat) {i : Nat} (hi : i < 9) (h : gs c (d0 a) (81 * r + 9 * i) i = 1000000) : ∀ k, k ≤ 9 → gs c (d0 a) (81 * r + 9 * i + k) = gs c (d0 a) (81 * r + 9 * i) := by
  intro k
  induction k with
  | zero => intro _; rfl
  | succ k ih =>
    intro hk
    show gs c (d0 a) (81 * r + 9 * i + k + 1) = _
    rw [gs, show (81 * r + 9 * i + k) / 9 % 9 = i by omega, ih (by omega)]
    funext q
    unfold rlx
    by_cases e : q = (81 * r + 9 * i + k) % 9
    · rw [if_pos e, e, h, Nat.min_eq_left]
      have := gs_inf c a (81 * r + 9 * i) ((81 * r + 9 * i + k) % 9)
      omega
    · rw [if_neg e]
def enc (n : Nat) : Int32 := if n = 1000000 then -6 else nI n
def WX (h : Hp) (D : Nat → Nat) : Hp := (fun a b => if a = 34 ∧ b < 9 then enc (D b) else h.1 a b, h.2)
theorem WX_row (h : Hp) (D : Nat → Nat) {r : Nat} (hr : r ≠ 34) : (WX h D).1 r = h.1 r := by
  unfold WX
  funext b
  simp [hr]
theorem WX_at (h : Hp) (D : Nat → Nat) {b : Nat} (hb : b < 9) : (WX h D).1 34 b = enc (D b) := by
  unfold WX
  simp [hb]
theorem WX_put (h : Hp) (D : Nat → Nat) {j : Nat} (hj : j < 9) {v : Nat} (hv : v ≠ 1000000) : ip (WX h D) 34 j (nI v) = WX h (fun k => if k = j then v else D k) := by
  refine Prod.ext ?_ rfl
  funext a b
  rw [ip_at]
  simp only [WX]
  by_cases ha : a = 34
  · by_cases hb : b = j
    · subst hb; simp [ha, hj, enc, hv]
    · simp [ha, hb]
  · simp [ha]
theorem WX_init (h : Hp) (ha : a < 9) : ip (fillH h 34 (-6) 9) 34 a 0 = WX h (d0 a) := by
  refine Prod.ext ?_ rfl
  funext p b
  rw [ip_at]
  simp only [WX, fillH, enc, d0]
  by_cases hp : p = 34
  · by_cases hb : b = a
    · subst hb; simp [hp, ha]; rfl
    · simp [hp, hb]
  · simp [hp]
theorem X_from (hw : w ≤ 1) (h : Hp) (hR : h.1 2 = R) (hd : ∀ i, i < 9 → R (9 * i + i) = -6) {r i : Nat} (hr : r < 9) (hi : i < 9) :
    f_X5_lengthenFrom (nI i) (nI w) (WX h (gs (cst R w) (d0 a) (81 * r + 9 * i))) = some (WX h (gs (cst R w) (d0 a) (81 * r + 9 * i + 9))) := by
  have hgi := gs_fin (R := R) hw a (81 * r + 9 * i) i
  rw [f_X5_lengthenFrom, at_ok _ _ hi (by omega), WX_at _ _ hi]
  simp only [obs]
  by_cases hI : gs (cst R w) (d0 a) (81 * r + 9 * i) i = 1000000
  · rw [if_pos (by rw [hI]; rfl), gs_skip _ _ hi hI 9 (by omega)]
  · have eE : enc (gs (cst R w) (d0 a) (81 * r + 9 * i) i) = nI (gs (cst R w) (d0 a) (81 * r + 9 * i) i) := by unfold enc; rw [if_neg hI]
    rw [eE, if_neg (neg6 (by omega))]
    refine loop_FU (fun f (q : Int32 × Hp) => f_X5_lengthenFrom_l19 (nI i) (nI w) (nI (gs (cst R w) (d0 a) (81 * r + 9 * i) i)) (fun (w14 : Int32) (h15 : Hp) => some h15) f q.1 q.2) (fun k => (nI k, WX h (gs (cst R w) (d0 a) (81 * r + 9 * i + k)))) 9 _ (by omega) (fun f k hk => ?_) (fun f => ?_)
    · show f_X5_lengthenFrom_l19 (nI i) (nI w) (nI (gs (cst R w) (d0 a) (81 * r + 9 * i) i)) _ (f + 1) (nI k) (WX h (gs (cst R w) (d0 a) (81 * r + 9 * i + k))) = f_X5_lengthenFrom_l19 (nI i) (nI w) (nI (gs (cst R w) (d0 a) (81 * r + 9 * i) i)) _ f (nI (k + 1)) (WX h (gs (cst R w) (d0 a) (81 * r + 9 * i + k + 1)))
      rw [gs, show (81 * r + 9 * i + k) / 9 % 9 = i by omega, show (81 * r + 9 * i + k) % 9 = k by omega]
      rw [← gs_from (cst R w) (d0 a) r hi k (by omega)] at hI hgi ⊢
      have hk1 := gs_inf (cst R w) a (81 * r + 9 * i + k) k
      have hkf := gs_fin (R := R) hw a (81 * r + 9 * i + k) k
      generalize gs (cst R w) (d0 a) (81 * r + 9 * i + k) = D at hk1 hI hgi hkf ⊢
      rw [f_X5_lengthenFrom_l19, if_neg (g9 hk), X_isOpen 1 _ hi hk (by intro i hi; rw [WX_row _ _ (by omega), hR]; exact hd i hi), WX_row _ _ (show 1 + 1 ≠ 34 by omega), show h.1 (1 + 1) = R from hR]
      simp only [obs]
      cases hoo : opn R i k with
      | false =>
        rw [if_pos b2_f, nI_succ']
        have e : rlx (cst R w) D i k = D := by
          funext q
          unfold rlx
          rw [cst_no w hoo, Nat.min_eq_left (by omega)]
          split
          · next h => rw [h]
          · rfl
        rw [e]
      | true =>
        have hc := cst_le hw hoo
        rw [if_neg (show ¬ b2 true = 0 by decide), X_road 1 _ hi hk (by intro i hi; rw [WX_row _ _ (by omega), hR]; exact hd i hi), WX_row _ _ (show 1 + 1 ≠ 34 by omega), show h.1 (1 + 1) = R from hR, at_ok _ _ hk (by omega), WX_at _ _ hk]
        simp only [obs]
        have e : (if nI w = 0 then some (1 : Int32) else some (R (9 * i + k))) = some (nI (cst R w i k)) := by
          have h2 : w = 0 ∨ w = 1 := by omega
          rcases h2 with rfl | rfl
          · rw [if_pos (show nI 0 = 0 from rfl), cst_1 hoo]; rfl
          · obtain ⟨q, q1, q2⟩ := opn_is hoo
            rw [if_neg (show ¬ nI 1 = 0 by decide), cst_w hoo q1 q2, q2]
        rw [e]
        simp only [obs, jn_eq]
        rw [nI_add]
        by_cases hkI : D k = 1000000
        · rw [if_pos (show enc (D k) = -6 by rw [hkI]; rfl), put_ok _ _ _ hk (by omega), WX_put _ _ hk (by omega)]
          simp only [obs]
          have e2 : rlx (cst R w) D i k = (fun q => if q = k then D i + cst R w i k else D q) := by
            funext q
            unfold rlx
            rw [Nat.min_eq_right (by omega)]
          rw [e2, nI_succ']
        · have eK : enc (D k) = nI (D k) := by unfold enc; rw [if_neg hkI]
          rw [eK, if_neg (neg6 (by omega))]
          by_cases hle : D k ≤ D i + cst R w i k
          · rw [if_pos (nI_le hle (by omega)), nI_succ']
            have e2 : rlx (cst R w) D i k = D := by
              funext q
              unfold rlx
              rw [Nat.min_eq_left hle]
              split
              · next h => rw [h]
              · rfl
            rw [e2]
          · rw [if_neg (nI_ge (by omega) (by omega)), put_ok _ _ _ hk (by omega), WX_put _ _ hk (by omega)]
            simp only [obs]
            have e2 : rlx (cst R w) D i k = (fun q => if q = k then D i + cst R w i k else D q) := by
              funext q
              unfold rlx
              rw [Nat.min_eq_right (by omega)]
            rw [e2, nI_succ']
    · show f_X5_lengthenFrom_l19 (nI i) (nI w) _ _ (f + 1) (nI 9) _ = _
      rw [f_X5_lengthenFrom_l19, if_pos e9]
theorem X_l31 {T : Type} (hw : w ≤ 1) (h : Hp) (hR : h.1 2 = R) (hd : ∀ i, i < 9 → R (9 * i + i) = -6) (s2 s4 : Int32) {r : Nat} (hr : r < 9) (kx : Int32 → Hp → Option T) :
    f_X5_leastWay_l31 s2 (nI w) s4 kx FU 0 (WX h (gs (cst R w) (d0 a) (81 * r))) = kx (nI 9) (WX h (gs (cst R w) (d0 a) (81 * (r + 1)))) := by
  refine loop_FU (fun f (q : Int32 × Hp) => f_X5_leastWay_l31 s2 (nI w) s4 kx f q.1 q.2) (fun k => (nI k, WX h (gs (cst R w) (d0 a) (81 * r + 9 * k)))) 9 _ (by omega) (fun f k hk => ?_) (fun f => ?_)
  · show f_X5_leastWay_l31 s2 (nI w) s4 kx (f + 1) (nI k) (WX h (gs (cst R w) (d0 a) (81 * r + 9 * k))) = f_X5_leastWay_l31 s2 (nI w) s4 kx f (nI (k + 1)) (WX h (gs (cst R w) (d0 a) (81 * r + 9 * k + 9)))
    rw [f_X5_leastWay_l31, if_neg (g9 hk), X_from hw h hR hd hr hk]
    simp only [obs]
    rw [nI_succ']
  · show f_X5_leastWay_l31 s2 (nI w) s4 kx (f + 1) (nI 9) (WX h (gs (cst R w) (d0 a) (81 * r + 81))) = _
    rw [f_X5_leastWay_l31, if_pos e9]
    rfl
theorem X_l21 {T : Type} (hw : w ≤ 1) (h : Hp) (hR : h.1 2 = R) (hd : ∀ i, i < 9 → R (9 * i + i) = -6) (s2 : Int32) (kx : Int32 → Hp → Option T) :
    f_X5_leastWay_l21 s2 (nI w) kx FU 1 (WX h (d0 a)) = kx (nI 9) (WX h (gs (cst R w) (d0 a) (81 * 8))) := by
  refine loop_FU (fun f (q : Int32 × Hp) => f_X5_leastWay_l21 s2 (nI w) kx f q.1 q.2) (fun k => (nI (k + 1), WX h (gs (cst R w) (d0 a) (81 * k)))) 8 _ (by omega) (fun f k hk => ?_) (fun f => ?_)
  · show f_X5_leastWay_l21 s2 (nI w) kx (f + 1) (nI (k + 1)) (WX h (gs (cst R w) (d0 a) (81 * k))) = f_X5_leastWay_l21 s2 (nI w) kx f (nI (k + 1 + 1)) (WX h (gs (cst R w) (d0 a) (81 * (k + 1))))
    rw [f_X5_leastWay_l21, if_neg (g9 (by omega)), X_l31 hw h hR hd s2 (nI (k + 1)) (show k < 9 by omega)]
    simp only [obs]
    rw [nI_succ']
  · show f_X5_leastWay_l21 s2 (nI w) kx (f + 1) (nI 9) _ = _
    rw [f_X5_leastWay_l21, if_pos e9]
end WAY
theorem cst_congr {R R' : Nat → Int32} (h : ∀ k, k < 81 → R k = R' k) (w : Nat) {i j : Nat} (hi : i < 9) (hj : j < 9) : cst R w i j = cst R' w i j := by
  unfold cst opn
  rw [h _ (by omega)]
theorem gs_congr {c c' : Nat → Nat → Nat} (h : ∀ i j, i < 9 → j < 9 → c i j = c' i j) (D : Nat → Nat) : ∀ n, gs c D n = gs c' D n := by
  intro n
  induction n with
  | zero => rfl
  | succ n ih =>
    rw [gs, gs, ih]
    funext q
    unfold rlx
    rw [h _ _ (Nat.mod_lt _ (by omega)) (Nat.mod_lt _ (by omega))]
theorem r_way : op_way Rl := by
  intro hx hm x1 x2 x3 hr
  rw [f_X5_way, f_X6_way, wi_eq]
  rcases ix_cases x1 9 (by omega) with h1 | ⟨a, ha, rfl⟩
  · rw [isPlace_no h1, mPlace_no h1]
    exact ⟨-1, hx, hm, rfl, rfl, hr⟩
  rw [isPlace_ok ha, mPlace_ok ha]
  simp only [obs, if_neg one_ne]
  rcases ix_cases x2 9 (by omega) with h2 | ⟨b, hb, rfl⟩
  · rw [isPlace_no h2, mPlace_no h2]
    exact ⟨-1, hx, hm, rfl, rfl, hr⟩
  rw [isPlace_ok hb, mPlace_ok hb]
  simp only [obs, if_neg one_ne]
  rcases in_cases x3 0 1 (by omega) (by omega) with ⟨e3, -⟩ | ⟨w, -, hw, rfl, e3⟩
  · rw [show f_X6_in x3 (0 : Int32) (1 : Int32) = some 0 from e3]
    exact ⟨-2, hx, hm, rfl, rfl, hr⟩
  rw [show f_X6_in (nI w) (0 : Int32) (1 : Int32) = some 1 from e3]
  simp only [obs, if_neg one_ne]
  obtain ⟨⟨t, ht, hS⟩, -⟩ := id hr
  obtain ⟨hm1, b1, b2, b3, b4, b5, b6⟩ := M_asNow hm
  have hX : f_X5_leastWay (nI a) (nI b) (nI w) hx = some (enc (gs (cst (hx.1 2) w) (d0 a) (81 * 8) b), WX hx (gs (cst (hx.1 2) w) (d0 a) (81 * 8))) := by
    rw [f_X5_leastWay, fill_ok _ _ _ _ (by omega)]
    simp only [obs]
    rw [put_ok _ _ _ ha (by omega), WX_init _ ha]
    simp only [obs]
    rw [X_l21 hw hx rfl hS.diag, at_ok _ _ hb (by omega), WX_at _ _ hb]
    rfl
  have hRM : ∀ k, k < 81 → hm1.1 2 k = hx.1 2 k := fun k hk => by rw [b2 k (by omega)]; exact (hS.1 k hk).symm
  refine ⟨enc (gs (cst (hx.1 2) w) (d0 a) (81 * 8) b), WX hx (gs (cst (hx.1 2) w) (d0 a) (81 * 8)), WM hm1 9 (gs (cst (hx.1 2) w) (d0 a) (81 * 9)), ?_, ?_, ?_⟩
  · have hw2 : w = 0 ∨ w = 1 := by omega
    rcases hw2 with rfl | rfl
    · rw [if_neg (show ¬ nI 0 = 1 by decide), show (0 : Int32) = nI 0 from rfl, hX]; rfl
    · rw [if_pos (show nI 1 = 1 from rfl), show (1 : Int32) = nI 1 from rfl, hX]; rfl
  · rw [b1]
    simp only [obs]
    rw [M_l35 _ ha, M_l70 hw hm1 hRM, ald_ok _ _ hb (by omega), WM_at _ _ _ hb, gs_stop _ _ hb]
    simp only [obs]
    have hf := gs_fin (R := hx.1 2) hw a (81 * 8) b
    unfold enc
    by_cases hI : gs (cst (hx.1 2) w) (d0 a) (81 * 8) b = 1000000
    · rw [if_pos hI, hI, if_pos (show (1000000 : Int32) ≤ nI 1000000 by decide)]
    · rw [if_neg hI, if_neg (show ¬ (1000000 : Int32) ≤ nI _ from nI_ge (b := 1000000) (by omega) (by omega))]
  · refine hr.frame (fun r hr => WX_row _ _ (by omega)) ⟨fun r hr => ?_, fun j hj => ?_⟩
    · rw [WM_row _ _ _ (by omega), b5 r (by omega) (by omega)]
    · rw [WM_row _ _ _ (by omega), b6 j (by omega) (by omega)]
