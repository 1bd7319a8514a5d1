/-! FITS: the numbers that go with all that was seen. -/
def rdv (k d g : Int32) : Int32 := if k = 1 then d * (irem (g / 10) 10 + irem g 10) else g / 100 + d * (irem (g / 10) 10 + 2 * irem g 10)
theorem read_v (k d g : Int32) : f_X5_reading k d g = some (rdv k d g) := by
  rw [f_X5_reading]
  simp only [obs]
  unfold rdv
  split <;> rfl
theorem tell_v (k d g : Int32) : f_X6_tellOf g k d = some (rdv k d g) := by
  rw [f_X6_tellOf]
  simp only [obs]
  unfold rdv
  split <;> rfl
/-- does g go with the last d of n sights -/
def fr (K D V : Nat → Int32) (n : Nat) (g : Int32) : Nat → Bool
  | 0 => true
  | d + 1 => decide (rdv (K (n - (d + 1))) (D (n - (d + 1))) g = V (n - (d + 1))) && fr K D V n g d
section FITS
variable {hx hm : Hp} {n : Nat}
theorem X_allow (hn : n ≤ 8) (h3 : hx.1 5 3 = nI n) (g : Int32) : f_X3_allowGuess 5 g hx = some (b2 (fr (hx.1 6) (hx.1 7) (hx.1 8) n g n)) := by
  rw [f_X3_allowGuess]
  have key : ∀ d f, d ≤ n → d < f → f_X3_allowGuess_l2 5 g hx (fun (w6 : Int32) => some (1 : Int32)) f (nI (n - d)) = some (b2 (fr (hx.1 6) (hx.1 7) (hx.1 8) n g d)) := by
    intro d
    induction d with
    | zero =>
      intro f _ hf
      obtain ⟨f, rfl⟩ : ∃ f', f = f' + 1 := ⟨f - 1, by omega⟩
      rw [f_X3_allowGuess_l2, h3, if_pos (nI_le (show n ≤ n - 0 by omega) (by omega))]
      rfl
    | succ d ih =>
      intro f hd hf
      obtain ⟨f, rfl⟩ : ∃ f', f = f' + 1 := ⟨f - 1, by omega⟩
      rw [f_X3_allowGuess_l2, h3, if_neg (nI_ge (by omega) (by omega)), if_neg (show ¬ (8 : Int32) ≤ nI (n - (d + 1)) from nI_ge (b := 8) (by omega) (by omega)), at_ok _ _ (show n - (d + 1) < 8 by omega) (by omega), at_ok _ _ (show n - (d + 1) < 8 by omega) (by omega), at_ok _ _ (show n - (d + 1) < 8 by omega) (by omega)]
      simp only [obs]
      rw [read_v]
      simp only [obs]
      rw [fr, nI_succ', show n - (d + 1) + 1 = n - d by omega]
      show (if rdv (hx.1 6 (n - (d + 1))) (hx.1 7 (n - (d + 1))) g = hx.1 8 (n - (d + 1)) then _ else _) = _
      by_cases e : rdv (hx.1 6 (n - (d + 1))) (hx.1 7 (n - (d + 1))) g = hx.1 8 (n - (d + 1))
      · rw [if_pos e, decide_eq_true e, Bool.true_and]
        exact ih f (by omega) (by omega)
      · rw [if_neg e, decide_eq_false e, Bool.false_and]
        rfl
  have h := key n FU (Nat.le_refl n) (by rw [FU_eq]; omega)
  rw [Nat.sub_self] at h
  exact h
theorem M_fit {K D V : Nat → Int32} (hn : n ≤ 8) (h3 : hm.1 0 3 = nI n) (hS : ∀ i, i < n → K i = hm.1 3 (3 * i) ∧ D i = hm.1 3 (3 * i + 1) ∧ V i = hm.1 3 (3 * i + 2)) (g : Int32) : f_X6_isFit g hm = some (b2 (fr K D V n g n)) := by
  rw [f_X6_isFit]
  have hk0 : ∀ (f : Nat) (s3 : Int32), 0 < f → f_X6_isFit_l4 g hm (fun (w8 : Int32) (w9 : Int32) => Option.bind (zck w8) fun v10 => some v10) f 0 s3 = some 0 := by
    intro f s3 hf
    obtain ⟨f, rfl⟩ : ∃ f', f = f' + 1 := ⟨f - 1, by omega⟩
    rw [f_X6_isFit_l4, if_pos rfl, zck_ok (Or.inl rfl)]
    split <;> rfl
  have key : ∀ d f, d ≤ n → d + 1 < f → f_X6_isFit_l4 g hm (fun (w8 : Int32) (w9 : Int32) => Option.bind (zck w8) fun v10 => some v10) f 1 (nI (n - d)) = some (b2 (fr K D V n g d)) := by
    intro d
    induction d with
    | zero =>
      intro f _ hf
      obtain ⟨f, rfl⟩ : ∃ f', f = f' + 1 := ⟨f - 1, by omega⟩
      rw [f_X6_isFit_l4, h3, if_pos (nI_le (show n ≤ n - 0 by omega) (by omega)), zck_ok (Or.inr rfl)]
      rfl
    | succ d ih =>
      intro f hd hf
      obtain ⟨f, rfl⟩ : ∃ f', f = f' + 1 := ⟨f - 1, by omega⟩
      obtain ⟨s1, s2, s3⟩ := hS (n - (d + 1)) (by omega)
      rw [f_X6_isFit_l4, h3, if_neg (nI_ge (by omega) (by omega)), if_neg one_ne, show (3 : Int32) = nI 3 from rfl, pk_mul, show (1 : Int32) = nI 1 from rfl, show (2 : Int32) = nI 2 from rfl, nI_add, nI_add, nI_add, ald_ok _ _ (show 3 * (n - (d + 1)) < 24 by omega) (by omega), ald_ok _ _ (show 3 * (n - (d + 1)) + 1 < 24 by omega) (by omega), ald_ok _ _ (show 3 * (n - (d + 1)) + 2 < 24 by omega) (by omega), ← s1, ← s2, ← s3]
      simp only [obs]
      rw [tell_v]
      simp only [obs]
      rw [fr, show n - (d + 1) + 1 = n - d by omega]
      by_cases e : rdv (K (n - (d + 1))) (D (n - (d + 1))) g = V (n - (d + 1))
      · rw [if_pos e, decide_eq_true e, Bool.true_and]
        simp only [obs]
        exact ih f (by omega) (by omega)
      · rw [if_neg e, decide_eq_false e, Bool.false_and]
        simp only [obs]
        exact hk0 f _ (by omega)
  have h := key n FU (Nat.le_refl n) (by rw [FU_eq]; omega)
  rw [Nat.sub_self] at h
  exact h
end FITS
