/-! PARTS: the roads whose loss parts their ends. -/
theorem rsb_imp {g g' : Nat → Nat → Bool} {i v : Nat} (hg : ∀ u v, u < 9 → v < 9 → g u v = true → g' u v = true) (hv : v < 9) (h : rsb g i v = true) : rsb g' i v = true :=
  rsb_sub g i (fun v => rsb g' i v = true) (rsb_self _ _) (fun u w hu hw hT he => rsb_next _ _ hu hw hT (hg u w hu hw he)) hv h
theorem rsb_congr {g g' : Nat → Nat → Bool} {i v : Nat} (hg : ∀ u v, u < 9 → v < 9 → g u v = g' u v) (hv : v < 9) : rsb g i v = rsb g' i v := by
  cases h1 : rsb g i v with
  | true => exact (rsb_imp (fun u v hu hv h => by rw [← hg u v hu hv]; exact h) hv h1).symm
  | false =>
    cases h2 : rsb g' i v with
    | false => rfl
    | true =>
      have := rsb_imp (g' := g) (fun u v hu hv h => by rw [hg u v hu hv]; exact h) hv h2
      rw [h1] at this
      cases this
def brd (g : Nat → Nat → Bool) (k : Nat) : Bool := decide (k / 9 < k % 9) && (g (k / 9) (k % 9) && !rsb (cut g (k / 9) (k % 9)) (k / 9) (k % 9))
def cu (p : Nat → Bool) : Nat → Nat
  | 0 => 0
  | n + 1 => if p n = true then cu p n + 1 else cu p n
def fu (p : Nat → Bool) : Nat → Option Nat
  | 0 => none
  | n + 1 => match fu p n with
    | some x => some x
    | none => if p n = true then some n else none
def cd (p : Nat → Bool) : Nat → Nat
  | 0 => 0
  | d + 1 => if p (80 - d) = true then cd p d + 1 else cd p d
def md (p : Nat → Bool) : Nat → Option Nat
  | 0 => none
  | d + 1 => if p (80 - d) = true then some (80 - d) else md p d
def encF (o : Option Nat) : Int32 := match o with
  | none => -6
  | some k => nI (10 * (k / 9) + k % 9)
theorem cu_le (p : Nat → Bool) : ∀ n, cu p n ≤ n
  | 0 => Nat.le_refl _
  | n + 1 => by
    have := cu_le p n
    rw [cu]
    split <;> omega
theorem cd_cu (p : Nat → Bool) : ∀ d, d ≤ 81 → cu p (81 - d) + cd p d = cu p 81 := by
  intro d
  induction d with
  | zero => intro _; rfl
  | succ d ih =>
    intro hd
    have h := ih (by omega)
    rw [show 81 - d = (80 - d) + 1 by omega, cu] at h
    rw [cd, show 81 - (d + 1) = 80 - d by omega]
    cases hp : p (80 - d) with
    | true => rw [hp, if_pos rfl] at h; rw [if_pos rfl]; omega
    | false => rw [hp, if_neg (by decide)] at h; rw [if_neg (by decide)]; exact h
def spF (p : Nat → Bool) (l : Nat) (u : Nat) (o : Option Nat) : Prop := (o = none ∧ ∀ k, l ≤ k → k < u → p k = false) ∨ ∃ x, o = some x ∧ l ≤ x ∧ x < u ∧ p x = true ∧ ∀ k, l ≤ k → k < x → p k = false
theorem spF_uniq {p : Nat → Bool} {l u : Nat} {o o' : Option Nat} (h : spF p l u o) (h' : spF p l u o') : o = o' := by
  rcases h with ⟨h1, h2⟩ | ⟨x, h1, h2, h3, h4, h5⟩
  · rcases h' with ⟨g1, g2⟩ | ⟨y, g1, g2, g3, g4, g5⟩
    · rw [h1, g1]
    · have := h2 y g2 g3
      rw [g4] at this; cases this
  · rcases h' with ⟨g1, g2⟩ | ⟨y, g1, g2, g3, g4, g5⟩
    · have := g2 x h2 h3
      rw [h4] at this; cases this
    · have : x = y := by
        rcases Nat.lt_trichotomy x y with q | q | q
        · have := g5 x h2 q
          rw [h4] at this; cases this
        · exact q
        · have := h5 y g2 q
          rw [g4] at this; cases this
      rw [h1, g1, this]
theorem fu_sp (p : Nat → Bool) : ∀ n, spF p 0 n (fu p n) := by
  intro n
  induction n with
  | zero => exact Or.inl ⟨rfl, fun k _ hk => absurd hk (by omega)⟩
  | succ n ih =>
    rw [fu]
    rcases ih with ⟨h1, h2⟩ | ⟨x, h1, h2, h3, h4, h5⟩
    · rw [h1]
      cases hp : p n with
      | true => exact Or.inr ⟨n, by simp, by omega, by omega, hp, fun k a b => h2 k a b⟩
      | false =>
        refine Or.inl ⟨by simp, fun k a b => ?_⟩
        by_cases e : k = n
        · rw [e]; exact hp
        · exact h2 k a (by omega)
    · rw [h1]
      exact Or.inr ⟨x, rfl, h2, by omega, h4, h5⟩
theorem md_sp (p : Nat → Bool) : ∀ d, d ≤ 81 → spF p (81 - d) 81 (md p d) := by
  intro d
  induction d with
  | zero => intro _; exact Or.inl ⟨rfl, fun k a b => absurd b (by omega)⟩
  | succ d ih =>
    intro hd
    rw [md]
    cases hp : p (80 - d) with
    | true => exact Or.inr ⟨80 - d, by simp, by omega, by omega, hp, fun k a b => absurd b (by omega)⟩
    | false =>
      rw [if_neg (by decide)]
      rcases ih (by omega) with ⟨h1, h2⟩ | ⟨x, h1, h2, h3, h4, h5⟩
      · refine Or.inl ⟨h1, fun k a b => ?_⟩
        by_cases e : k = 80 - d
        · rw [e]; exact hp
        · exact h2 k (by omega) b
      · refine Or.inr ⟨x, h1, by omega, h3, h4, fun k a b => ?_⟩
        by_cases e : k = 80 - d
        · rw [e]; exact hp
        · exact h5 k (by omega) b
theorem cd_is (p : Nat → Bool) : cd p 81 = cu p 81 := by
  have h := cd_cu p 81 (by omega)
  have h2 : cu p (81 - 81) = 0 := rfl
  omega
theorem md_is (p : Nat → Bool) : md p 81 = fu p 81 := by
  have h := md_sp p 81 (by omega)
  rw [show 81 - 81 = 0 from rfl] at h
  exact spF_uniq h (fu_sp p 81)
theorem cu_skip (p : Nat → Bool) (n : Nat) : ∀ k, (∀ j, j < k → p (n + j) = false) → cu p (n + k) = cu p n ∧ fu p (n + k) = fu p n := by
  intro k
  induction k with
  | zero => intro _; exact ⟨rfl, rfl⟩
  | succ k ih =>
    intro h
    obtain ⟨h1, h2⟩ := ih (fun j hj => h j (by omega))
    have hp := h k (by omega)
    refine ⟨?_, ?_⟩
    · show cu p (n + k + 1) = _
      rw [cu, hp, if_neg (by decide)]
      exact h1
    · show fu p (n + k + 1) = _
      rw [fu, h2, hp]
      cases fu p n <;> rfl
theorem encF_none {p : Nat → Bool} {n : Nat} (hn : n ≤ 81) : encF (fu p n) = -6 ↔ fu p n = none := by
  rcases fu_sp p n with ⟨h1, h2⟩ | ⟨x, h1, h2, h3, h4, h5⟩
  · rw [h1]; exact ⟨fun _ => rfl, fun _ => rfl⟩
  · rw [h1]
    refine ⟨fun q => ?_, fun q => by cases q⟩
    exact absurd q (neg6 (by omega))
section PARTS
theorem X_l33 {T : Type} {h : Hp} (hd : ∀ i, i < 9 → h.1 2 (9 * i + i) = -6) (s1 : Int32) {a : Nat} (ha : a < 9) (kx : Int32 → Int32 → Int32 → Option T) :
    f_X5_parts_l33 s1 (nI a) h kx FU (nI (cu (brd (opn (h.1 2))) (9 * a))) (encF (fu (brd (opn (h.1 2))) (9 * a))) (nI (a + 1)) = kx (nI (cu (brd (opn (h.1 2))) (9 * (a + 1)))) (encF (fu (brd (opn (h.1 2))) (9 * (a + 1)))) (nI 9) := by
  obtain ⟨s1', s2'⟩ := cu_skip (brd (opn (h.1 2))) (9 * a) (a + 1) (fun j hj => by
    unfold brd
    rw [show (9 * a + j) / 9 = a by omega, show (9 * a + j) % 9 = j by omega, decide_eq_false (by omega)]
    rfl)
  rw [← s1', ← s2']
  refine (loop_FU (fun f (q : Int32 × Int32 × Int32) => f_X5_parts_l33 s1 (nI a) h kx f q.1 q.2.1 q.2.2) (fun k => (nI (cu (brd (opn (h.1 2))) (9 * a + (a + 1) + k)), encF (fu (brd (opn (h.1 2))) (9 * a + (a + 1) + k)), nI (a + 1 + k))) (8 - a) (kx (nI (cu (brd (opn (h.1 2))) (9 * (a + 1)))) (encF (fu (brd (opn (h.1 2))) (9 * (a + 1)))) (nI 9)) (by omega) (fun f k hk => ?_) (fun f => ?_))
  · show f_X5_parts_l33 s1 (nI a) h kx (f + 1) (nI (cu (brd (opn (h.1 2))) (9 * a + (a + 1) + k))) (encF (fu (brd (opn (h.1 2))) (9 * a + (a + 1) + k))) (nI (a + 1 + k)) = f_X5_parts_l33 s1 (nI a) h kx f (nI (cu (brd (opn (h.1 2))) (9 * a + (a + 1) + k + 1))) (encF (fu (brd (opn (h.1 2))) (9 * a + (a + 1) + k + 1))) (nI (a + 1 + k + 1))
    have hb : a + 1 + k < 9 := by omega
    have hn := encF_none (p := brd (opn (h.1 2))) (show 9 * a + (a + 1) + k ≤ 81 by omega)
    have hbr : brd (opn (h.1 2)) (9 * a + (a + 1) + k) = (opn (h.1 2) a (a + 1 + k) && !rsb (cut (opn (h.1 2)) a (a + 1 + k)) a (a + 1 + k)) := by
      unfold brd
      rw [show (9 * a + (a + 1) + k) / 9 = a by omega, show (9 * a + (a + 1) + k) % 9 = a + 1 + k by omega, decide_eq_true (by omega)]
      rfl
    rw [f_X5_parts_l33, if_neg (g9 hb), X_isOpen 1 h ha hb hd, cu, fu, hbr]
    simp only [obs]
    cases ho : opn (h.1 2) a (a + 1 + k) with
    | false =>
      rw [if_pos b2_f, nI_succ']
      simp only [Bool.false_and, if_neg (show ¬ false = true by decide)]
      cases fu (brd (opn (h.1 2))) (9 * a + (a + 1) + k) <;> rfl
    | true =>
      rw [if_neg (show ¬ b2 true = 0 by decide), X_joined1 (a := 1) hd ha hb (by omega)]
      simp only [obs, Bool.true_and]
      rw [holds_ok (by have := msk_lt (rsb (cut (opn (h.1 (1 + 1))) a (a + 1 + k)) a) 9; omega) (by omega), msk_bit, decide_eq_true hb, Bool.true_and, show rsb (cut (opn (h.1 (1 + 1))) a (a + 1 + k)) a (a + 1 + k) = rsb (cut (opn (h.1 2)) a (a + 1 + k)) a (a + 1 + k) from rfl]
      simp only [obs]
      cases hr : rsb (cut (opn (h.1 2)) a (a + 1 + k)) a (a + 1 + k) with
      | true =>
        rw [if_neg (show ¬ b2 true = 0 by decide), nI_succ']
        simp only [Bool.not_true, if_neg (show ¬ false = true by decide)]
        cases fu (brd (opn (h.1 2))) (9 * a + (a + 1) + k) <;> rfl
      | false =>
        rw [if_pos b2_f, nI_succ', nI_succ']
        simp only [Bool.not_false, if_pos rfl]
        cases hf : fu (brd (opn (h.1 2))) (9 * a + (a + 1) + k) with
        | none =>
          rw [if_pos (show encF none = -6 from rfl), name_ok ha hb]
          simp only [obs]
          have e : encF (some (9 * a + (a + 1) + k)) = nI (nam a (a + 1 + k)) := by
            show nI _ = _
            rw [show (9 * a + (a + 1) + k) / 9 = a by omega, show (9 * a + (a + 1) + k) % 9 = a + 1 + k by omega]
            unfold nam
            rw [Nat.min_eq_left (by omega), Nat.max_eq_right (by omega)]
          rw [← e]
          rfl
        | some x =>
          rw [hf] at hn
          rw [if_neg (fun q => by have := hn.mp q; cases this), if_pos trivial]
  · show f_X5_parts_l33 s1 (nI a) h kx (f + 1) _ _ (nI (a + 1 + (8 - a))) = _
    rw [show a + 1 + (8 - a) = 9 by omega, f_X5_parts_l33, if_pos e9, show 9 * a + (a + 1) + (8 - a) = 9 * (a + 1) by omega]
theorem X_l20 {T : Type} {h : Hp} (hd : ∀ i, i < 9 → h.1 2 (9 * i + i) = -6) (s1 : Int32) (kx : Int32 → Int32 → Int32 → Option T) :
    f_X5_parts_l20 s1 h kx FU 0 (-6) 0 = kx (nI (cu (brd (opn (h.1 2))) 81)) (encF (fu (brd (opn (h.1 2))) 81)) (nI 9) := by
  refine loop_FU (fun f (q : Int32 × Int32 × Int32) => f_X5_parts_l20 s1 h kx f q.1 q.2.1 q.2.2) (fun k => (nI (cu (brd (opn (h.1 2))) (9 * k)), encF (fu (brd (opn (h.1 2))) (9 * k)), nI k)) 9 _ (by omega) (fun f k hk => ?_) (fun f => ?_)
  · show f_X5_parts_l20 s1 h kx (f + 1) (nI (cu (brd (opn (h.1 2))) (9 * k))) (encF (fu (brd (opn (h.1 2))) (9 * k))) (nI k) = f_X5_parts_l20 s1 h kx f (nI (cu (brd (opn (h.1 2))) (9 * (k + 1)))) (encF (fu (brd (opn (h.1 2))) (9 * (k + 1)))) (nI (k + 1))
    rw [f_X5_parts_l20, if_neg (g9 hk)]
    simp only [obs]
    rw [nI_succ', X_l33 hd s1 hk]
  · show f_X5_parts_l20 s1 h kx (f + 1) _ _ (nI 9) = _
    rw [f_X5_parts_l20, if_pos e9]
theorem nI_dec (k : Nat) : nI (k + 1) + (-1 : Int32) = nI k := by
  rw [← nI_succ', Int32.add_assoc, show (1 : Int32) + -1 = 0 by decide, Int32.add_zero]
theorem pr_back (h : Hp) (i j : Nat) (v : Int32) (hs : h.1 2 (9 * j + i) = h.1 2 (9 * i + j)) : pr 2 i j (h.1 2 (9 * i + j)) (pr 2 i j v h) = h := by
  refine Prod.ext ?_ rfl
  funext p q
  unfold pr
  rw [ip_at, ip_at, ip_at, ip_at]
  by_cases hp : p = 2
  · by_cases h1 : q = 9 * j + i
    · rw [if_pos ⟨hp, h1⟩, hp, h1, hs]
    · by_cases h2 : q = 9 * i + j
      · rw [if_neg (fun e => h1 e.2), if_pos ⟨hp, h2⟩, hp, h2]
      · rw [if_neg (fun e => h1 e.2), if_neg (fun e => h2 e.2), if_neg (fun e => h1 e.2), if_neg (fun e => h2 e.2)]
  · rw [if_neg (fun e => hp e.1), if_neg (fun e => hp e.1), if_neg (fun e => hp e.1), if_neg (fun e => hp e.1)]
theorem opn_cut (R : Nat → Int32) (i j : Nat) (hi : i < 9) (hj : j < 9) (u v : Nat) (hu : u < 9) (hv : v < 9) : opn (setR R i j (-6)) u v = cut (opn R) i j u v := by
  unfold cut
  by_cases h1 : (u = i ∧ v = j) ∨ (u = j ∧ v = i)
  · have e : setR R i j (-6) (9 * u + v) = -6 := by
      unfold setR
      rw [if_pos (by omega)]
    unfold opn
    rw [e]
    have e2 : ((decide (u = i) && decide (v = j)) || (decide (u = j) && decide (v = i))) = true := by
      simpa using h1
    rw [e2]
    show inb (-6) 0 8 = _
    simp only [Bool.not_true, Bool.and_false]
    decide
  · have e : setR R i j (-6) (9 * u + v) = R (9 * u + v) := by
      unfold setR
      rw [if_neg (by omega)]
    unfold opn
    rw [e]
    have e2 : ((decide (u = i) && decide (v = j)) || (decide (u = j) && decide (v = i))) = false := by
      simpa using h1
    rw [e2]
    simp
theorem M_l25 {T : Type} {h : Hp} {g : Nat → Nat → Bool} (hg : ∀ u v, u < 9 → v < 9 → opn (h.1 2) u v = g u v) (hs : ∀ i j, i < 9 → j < 9 → h.1 2 (9 * j + i) = h.1 2 (9 * i + j)) (s1 : Int32) (kx : Int32 → Int32 → Int32 → Hp → Option T) :
    f_X6_parts_l25 s1 kx FU 0 (-6) 80 h = kx (nI (cd (brd g) 81)) (encF (md (brd g) 81)) (nI 0 + (-1 : Int32)) h := by
  refine loop_FU (fun f (q : Int32 × Int32 × Int32) => f_X6_parts_l25 s1 kx f q.1 q.2.1 q.2.2 h) (fun d => (nI (cd (brd g) d), encF (md (brd g) d), nI (81 - d) + (-1 : Int32))) 81 _ (by omega) (fun f d hd => ?_) (fun f => ?_)
  · show f_X6_parts_l25 s1 kx (f + 1) (nI (cd (brd g) d)) (encF (md (brd g) d)) (nI (81 - d) + (-1 : Int32)) h = f_X6_parts_l25 s1 kx f (nI (cd (brd g) (d + 1))) (encF (md (brd g) (d + 1))) (nI (81 - (d + 1)) + (-1 : Int32)) h
    rw [show 81 - d = (80 - d) + 1 by omega, nI_dec, show 81 - (d + 1) = 80 - d by omega, cd, md]
    have hk81 : 80 - d < 81 := by omega
    generalize 80 - d = k at hk81
    have hi : k / 9 < 9 := by omega
    have hj : k % 9 < 9 := Nat.mod_lt _ (by omega)
    have hij : 9 * (k / 9) + k % 9 = k := by omega
    rw [f_X6_parts_l25, if_neg (nI_pos (by omega)), show nI k / (9 : Int32) = nI (k / 9) from div_nI (d := 9) (by omega) (by omega) (by omega), show irem (nI k) (9 : Int32) = nI (k % 9) from irem_nI (d := 9) (by omega) (by omega) (by omega)]
    simp only [obs]
    by_cases hle : k % 9 ≤ k / 9
    · rw [if_pos (nI_le hle (by omega))]
      have e : brd g k = false := by
        unfold brd
        rw [decide_eq_false (by omega)]
        rfl
      rw [e, if_neg (by decide), if_neg (by decide)]
    · rw [if_neg (nI_ge (by omega) (by omega)), M_isOpen h hi hj, hg _ _ hi hj]
      have hbr : brd g k = (g (k / 9) (k % 9) && !rsb (cut g (k / 9) (k % 9)) (k / 9) (k % 9)) := by
        unfold brd
        rw [decide_eq_true (by omega)]
        rfl
      rw [hbr]
      simp only [obs]
      cases hgo : g (k / 9) (k % 9) with
      | false =>
        rw [if_pos b2_f]
        simp only [Bool.false_and, if_neg (show ¬ false = true by decide)]
      | true =>
        rw [if_neg (show ¬ b2 true = 0 by decide), ald_ok _ _ (show k < 89 by omega) (by omega), M_lay h hi hj]
        simp only [obs]
        rw [M_part _ hi]
        simp only [obs]
        rw [has_ok (by have := msk_lt (rsb (opn ((pr 2 (k / 9) (k % 9) (-6) h).1 2)) (k / 9)) 9; omega) (by omega), msk_bit, decide_eq_true hj, Bool.true_and, pr_self]
        have er : rsb (opn (setR (h.1 2) (k / 9) (k % 9) (-6))) (k / 9) (k % 9) = rsb (cut g (k / 9) (k % 9)) (k / 9) (k % 9) := by
          refine rsb_congr (fun u v hu hv => ?_) hj
          rw [opn_cut _ _ _ hi hj u v hu hv]
          unfold cut
          rw [hg u v hu hv]
        rw [er, M_lay _ hi hj]
        simp only [obs, Bool.true_and]
        have hb := pr_back h (k / 9) (k % 9) (-6) (hs _ _ hi hj)
        rw [hij] at hb
        rw [hb]
        cases hr : rsb (cut g (k / 9) (k % 9)) (k / 9) (k % 9) with
        | true =>
          rw [if_neg (show ¬ b2 true = 0 by decide)]
          simp only [obs, Bool.not_true, if_neg (show ¬ false = true by decide)]
          rw [if_pos trivial]
          simp only [obs]
          rw [Int32.add_zero, if_pos trivial]
          simp only [obs]
        | false =>
          rw [if_pos b2_f]
          simp only [obs, Bool.not_false, if_pos trivial]
          rw [if_neg one_ne, if_neg one_ne]
          simp only [obs]
          rw [nI_succ', show (10 : Int32) = nI 10 from rfl, pk_mul, nI_add]
          rfl
  · show f_X6_parts_l25 s1 kx (f + 1) _ _ (nI (81 - 81) + (-1 : Int32)) h = _
    rw [f_X6_parts_l25, if_pos (show nI (81 - 81) + (-1 : Int32) < 0 by decide)]
end PARTS
theorem r_parts : op_parts Rl := by
  intro hx hm x1 hr
  rw [f_X5_parts, f_X6_parts, wi_eq]
  rcases in_cases x1 0 1 (by omega) (by omega) with ⟨e3, -⟩ | ⟨w, -, hw, rfl, e3⟩
  · rw [show f_X6_in x1 (0 : Int32) (1 : Int32) = some 0 from e3]
    exact ⟨-2, hm, rfl, rfl, hr⟩
  rw [show f_X6_in (nI w) (0 : Int32) (1 : Int32) = some 1 from e3]
  simp only [obs, if_neg one_ne]
  obtain ⟨⟨t, ht, hS⟩, -⟩ := id hr
  obtain ⟨hm1, b1, b2, b3, b4, b5, b6⟩ := M_asNow hm
  have hRM : ∀ k, k < 81 → hm1.1 2 k = hx.1 2 k := fun k hk => by rw [b2 k (by omega)]; exact (hS.1 k hk).symm
  rw [X_l20 hS.diag, b1]
  simp only [obs]
  rw [M_l25 (g := opn (hx.1 2)) (fun u v hu hv => by unfold opn; rw [hRM _ (by omega)]) (fun i j hi hj => by rw [hRM _ (by omega), hRM _ (by omega)]; exact hS.2.1.1 j i hj hi), cd_is, md_is]
  have hfr : Rl hx hm1 := hr.frame (eqX.rf _) (eqM_asNow b5 b6)
  by_cases hw0 : w = 0
  · subst hw0
    rw [if_pos (show nI 0 = 0 from rfl), if_pos (show nI 0 = 0 from rfl)]
    exact ⟨_, hm1, rfl, rfl, hfr⟩
  · rw [if_neg (nzn (show w < 2 ^ 31 by omega) hw0), if_neg (nzn (show w < 2 ^ 31 by omega) hw0)]
    exact ⟨_, hm1, rfl, rfl, hfr⟩
