/-! WHO: the fits in their order. -/
def nthf (p : Nat → Bool) : Nat → Nat → Nat
  | 0, _ => 0
  | k + 1, j => if p k = true ∧ cu p k = j then k else nthf p k j
theorem cu_mono (p : Nat → Bool) : ∀ k m, k ≤ m → cu p k ≤ cu p m := by
  intro k m h
  induction m with
  | zero => rw [show k = 0 by omega]; exact Nat.le_refl _
  | succ m ih =>
    by_cases e : k = m + 1
    · rw [e]; exact Nat.le_refl _
    · have := ih (by omega)
      rw [cu]
      split <;> omega
theorem nthf_keep (p : Nat → Bool) {k j : Nat} (hj : j < cu p k) : ∀ m, k ≤ m → nthf p m j = nthf p k j := by
  intro m h
  induction m with
  | zero => rw [show k = 0 by omega]
  | succ m ih =>
    by_cases e : k = m + 1
    · rw [e]
    · have := cu_mono p k m (by omega)
      rw [nthf, if_neg (by omega)]
      exact ih (by omega)
theorem nthf_lt (p : Nat → Bool) : ∀ k j, j < cu p k → nthf p k j < k
  | 0, j, h => absurd h (by rw [cu]; omega)
  | k + 1, j, h => by
    rw [nthf]
    by_cases e : p k = true ∧ cu p k = j
    · rw [if_pos e]; omega
    · rw [if_neg e]
      rw [cu] at h
      have : j < cu p k := by
        by_cases hp : p k = true
        · rw [if_pos hp] at h
          have : ¬ cu p k = j := fun q => e ⟨hp, q⟩
          omega
        · rw [if_neg hp] at h; exact h
      have := nthf_lt p k j this
      omega
/-- the fits below k laid into row r -/
def GH (h : Hp) (r : Nat) (p : Nat → Bool) (k : Nat) : Hp := (fun a j => if a = r ∧ j < cu p k then nI (nthf p k j) else h.1 a j, h.2)
theorem GH_row (h : Hp) (r : Nat) (p : Nat → Bool) (k : Nat) {a : Nat} (ha : a ≠ r) : (GH h r p k).1 a = h.1 a := by
  unfold GH
  funext j
  simp [ha]
theorem GH_at (h : Hp) (r : Nat) (p : Nat → Bool) (k : Nat) {j : Nat} (hj : j < cu p k) : (GH h r p k).1 r j = nI (nthf p k j) := by
  unfold GH
  simp [hj]
theorem GH_0 (h : Hp) (r : Nat) (p : Nat → Bool) : GH h r p 0 = h := by
  refine Prod.ext ?_ rfl
  funext a j
  show (if a = r ∧ j < 0 then nI (nthf p 0 j) else h.1 a j) = _
  rw [if_neg (by omega)]
theorem GH_yes (h : Hp) (r : Nat) (p : Nat → Bool) (k : Nat) (hp : p k = true) : ip (GH h r p k) r (cu p k) (nI k) = GH h r p (k + 1) := by
  refine Prod.ext ?_ rfl
  funext a j
  rw [ip_at]
  show (if a = r ∧ j = cu p k then nI k else if a = r ∧ j < cu p k then nI (nthf p k j) else h.1 a j) = (if a = r ∧ j < cu p (k + 1) then nI (nthf p (k + 1) j) else h.1 a j)
  rw [cu, if_pos hp, nthf]
  by_cases h1 : a = r ∧ j = cu p k
  · rw [if_pos h1, if_pos (by omega), if_pos ⟨hp, h1.2.symm⟩]
  · rw [if_neg h1]
    by_cases h2 : a = r ∧ j < cu p k
    · rw [if_pos h2, if_pos (by omega), if_neg (by omega)]
    · rw [if_neg h2, if_neg (by omega)]
theorem GH_no (h : Hp) (r : Nat) (p : Nat → Bool) (k : Nat) (hp : p k = false) : GH h r p k = GH h r p (k + 1) := by
  refine Prod.ext ?_ rfl
  funext a j
  show (if a = r ∧ j < cu p k then nI (nthf p k j) else h.1 a j) = (if a = r ∧ j < cu p (k + 1) then nI (nthf p (k + 1) j) else h.1 a j)
  have e1 : cu p (k + 1) = cu p k := by rw [cu, hp, if_neg (by decide)]
  have e2 : nthf p (k + 1) j = nthf p k j := by rw [nthf, hp, if_neg (by simp)]
  rw [e1, e2]
theorem X_gather {hx : Hp} {p : Nat → Bool} (hp : ∀ (h : Hp), (∀ r, r ≠ 37 → h.1 r = hx.1 r) → ∀ g, g < 1000 → f_X3_allowGuess 5 (nI g) h = some (b2 (p g))) : f_X5_gatherFitting hx = some (nI (cu p 1000), GH hx 37 p 1000) := by
  rw [f_X5_gatherFitting]
  have key := loop_FU (fun f (q : Int32 × Int32 × Hp) => f_X5_gatherFitting_l4 (fun (w6 : Int32) (w7 : Int32) (h8 : Hp) => some (w6, h8)) f q.1 q.2.1 q.2.2) (fun k => (nI (cu p k), nI k, GH hx 37 p k)) 1000 (some (nI (cu p 1000), GH hx 37 p 1000)) (by omega) (fun f k hk => by
      show f_X5_gatherFitting_l4 _ (f + 1) (nI (cu p k)) (nI k) (GH hx 37 p k) = f_X5_gatherFitting_l4 _ f (nI (cu p (k + 1))) (nI (k + 1)) (GH hx 37 p (k + 1))
      have hc := cu_le p k
      rw [f_X5_gatherFitting_l4, if_neg (show ¬ (1000 : Int32) ≤ nI k from nI_ge (b := 1000) hk (by omega)), hp _ (fun r hr => GH_row _ _ _ _ hr) k hk]
      simp only [obs]
      cases hq : p k with
      | false => rw [if_pos b2_f, nI_succ', GH_no _ _ _ _ hq, cu, hq, if_neg (by decide)]
      | true =>
        rw [if_neg (show ¬ b2 true = 0 by decide), put_ok _ _ _ (show cu p k < 1000 by omega) (by omega), GH_yes _ _ _ _ hq]
        simp only [obs]
        rw [nI_succ', nI_succ', cu, hq, if_pos rfl])
    (fun f => by
      show f_X5_gatherFitting_l4 _ (f + 1) (nI (cu p 1000)) (nI 1000) _ = _
      rw [f_X5_gatherFitting_l4, if_pos (show (1000 : Int32) ≤ nI 1000 by decide)])
  dsimp only at key
  rw [GH_0] at key
  exact key
theorem M_who {hm : Hp} {p : Nat → Bool} (hp : ∀ g, g < 1000 → f_X6_isFit (nI g) hm = some (b2 (p g))) (x1 : Int32) : ∀ d k f, k + d = 1000 → d < f → (∀ j, j < cu p k → x1 ≠ nI j) → f_X6_who_l4 x1 hm (fun (w5 : Int32) (w6 : Int32) => if x1 = (-1 : Int32) then (some w5) else (some (-6 : Int32))) f (nI (cu p k)) (nI k) = (if x1 = -1 then some (nI (cu p 1000)) else if 0 ≤ x1 ∧ x1 < nI (cu p 1000) then some (nI (nthf p 1000 x1.toInt.toNat)) else some (-6)) := by
  intro d
  induction d with
  | zero =>
    intro k f hk hf hj
    obtain ⟨f, rfl⟩ : ∃ f', f = f' + 1 := ⟨f - 1, by omega⟩
    have : k = 1000 := by omega
    subst this
    have hc := cu_le p 1000
    rw [f_X6_who_l4, if_pos (show (1000 : Int32) ≤ nI 1000 by decide)]
    by_cases h1 : x1 = -1
    · rw [if_pos h1, if_pos h1]
    · rw [if_neg h1, if_neg h1, if_neg]
      rintro ⟨h2, h3⟩
      rcases ix_cases x1 (cu p 1000) (by omega) with (h | h) | ⟨j, hj', e⟩
      · exact absurd h2 (Int32.not_le.mpr h)
      · exact absurd h3 (Int32.not_lt.mpr h)
      · exact hj j hj' e
  | succ d ih =>
    intro k f hk hf hj
    obtain ⟨f, rfl⟩ : ∃ f', f = f' + 1 := ⟨f - 1, by omega⟩
    have hc := cu_le p k
    rw [f_X6_who_l4, if_neg (show ¬ (1000 : Int32) ≤ nI k from nI_ge (b := 1000) (by omega) (by omega)), hp k (by omega)]
    simp only [obs]
    cases hq : p k with
    | false =>
      rw [if_pos b2_f, nI_succ']
      have e : cu p (k + 1) = cu p k := by rw [cu, hq, if_neg (by decide)]
      rw [← e]
      exact ih (k + 1) f (by omega) (by omega) (by rw [e]; exact hj)
    | true =>
      have e : cu p (k + 1) = cu p k + 1 := by rw [cu, hq, if_pos rfl]
      rw [if_neg (show ¬ b2 true = 0 by decide)]
      by_cases h1 : nI (cu p k) = x1
      · rw [if_pos h1, ← h1]
        have h2 := cu_mono p (k + 1) 1000 (by omega)
        rw [if_neg (neg1 (by omega)), if_pos ⟨nI_pos' (by omega), nI_lt (by omega) (by have := cu_le p 1000; omega)⟩, nI_toInt (by omega)]
        show _ = some (nI (nthf p 1000 (cu p k)))
        rw [nthf_keep p (k := k + 1) (by omega) 1000 (by omega), nthf, if_pos ⟨hq, rfl⟩]
      · rw [if_neg h1, nI_succ', nI_succ', ← e]
        refine ih (k + 1) f (by omega) (by omega) (fun j hj' q => ?_)
        rw [e] at hj'
        by_cases e2 : j = cu p k
        · exact h1 (by rw [q, e2])
        · exact hj j (by omega) q
theorem fits_same {hx hm : Hp} (hr : Rl hx hm) : ∃ p : Nat → Bool, (∀ (h : Hp), (∀ r, r ≠ 37 → h.1 r = hx.1 r) → ∀ g, g < 1000 → f_X3_allowGuess 5 (nI g) h = some (b2 (p g))) ∧ (∀ (h : Hp), h.1 0 3 = hm.1 0 3 → h.1 3 = hm.1 3 → ∀ g, g < 1000 → f_X6_isFit (nI g) h = some (b2 (p g))) := by
  obtain ⟨-, ⟨g1, n, g2, g3, g4⟩, -⟩ := id hr
  refine ⟨fun g => fr (hx.1 6) (hx.1 7) (hx.1 8) n (nI g) n, fun h hh g _ => ?_, fun h h0 h3 g _ => ?_⟩
  · rw [X_allow g2 (by rw [hh 5 (by omega)]; exact g3), hh 6 (by omega), hh 7 (by omega), hh 8 (by omega)]
  · exact M_fit g2 (by rw [h0, ← g1]; exact g3) (fun i hi => by rw [h3]; exact g4 i hi) (nI g)
theorem r_who : op_who Rl := by
  intro hx hm x1 hr
  obtain ⟨p, hpX, hpM⟩ := fits_same hr
  have hM := M_who (hm := hm) (hpM hm rfl rfl) x1 1000 0 FU (by omega) (by rw [FU_eq]; omega) (fun j hj => absurd hj (by rw [cu]; omega))
  have hM' : f_X6_who x1 hm = _ := hM
  have hfr : Rl (GH hx 37 p 1000) hm := hr.frame (fun r hq => GH_row _ _ _ _ (by omega)) ⟨fun _ _ => rfl, fun _ _ => rfl⟩
  have hc := cu_le p 1000
  rw [hM', f_X5_who, X_gather hpX]
  simp only [obs]
  by_cases h1 : x1 = -1
  · subst h1
    rw [if_pos (by decide), if_pos rfl, if_pos rfl]
    exact ⟨_, _, rfl, rfl, hfr⟩
  · rw [if_neg h1, if_neg h1]
    rcases ix_cases x1 (cu p 1000) (by omega) with (h | h) | ⟨j, hj, e⟩
    · rw [if_neg (show ¬ (-1 : Int32) ≤ x1 from fun q => by
        have q1 := Int32.le_iff_toInt_le.mp q
        have q2 := Int32.lt_iff_toInt_lt.mp h
        have q3 : x1.toInt ≠ -1 := fun q4 => h1 (Int32.toInt_inj.mp q4)
        have q5 : (-1 : Int32).toInt = -1 := by decide
        have q6 : (0 : Int32).toInt = 0 := by decide
        omega), if_neg (fun q => absurd q.1 (Int32.not_le.mpr h))]
      exact ⟨-6, hx, rfl, rfl, hr⟩
    · have h0 : (0 : Int32) ≤ x1 := Int32.le_trans (nI_pos' (by omega)) h
      rw [if_pos (Int32.le_trans (show (-1 : Int32) ≤ 0 by decide) h0), if_pos h, if_neg (fun q => absurd q.2 (Int32.not_lt.mpr h))]
      exact ⟨-6, _, rfl, rfl, hfr⟩
    · subst e
      rw [if_pos (Int32.le_trans (show (-1 : Int32) ≤ 0 by decide) (nI_pos' (by omega))), if_neg (nI_ge hj (by omega)), if_pos ⟨nI_pos' (by omega), nI_lt hj (by omega)⟩, at_ok _ _ (show j < 1000 by omega) (by omega), GH_at _ _ _ _ hj, nI_toInt (by omega)]
      exact ⟨_, _, rfl, rfl, hfr⟩
