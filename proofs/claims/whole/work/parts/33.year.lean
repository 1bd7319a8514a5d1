/-! THE YEAR of drawn acts. -/
theorem FX.b {a b : Hp} (h : FX a b) : FXb a b := fun r hr => h r (by omega) (by omega) (by omega) (by omega)
theorem FM.b0 {a b : Hp} (h : FM a b) (v : Int32) : FMb a (ip b 0 9 v) := ⟨fun q h0 h2 => by rw [ip_row _ 0 _ _ h0, h q h2], fun j hj => by rw [ip_n _ 0 _ _ (Or.inr (by omega)), h 0 (by omega)]⟩
theorem div8 {x : Nat} (hx : x < 65537) : irem (nI x / (6 : Int32)) (8 : Int32) = nI (x / 6 % 8) := by
  rw [show nI x / (6 : Int32) = nI (x / 6) from div_nI (d := 6) (by omega) (by omega) (by omega)]
  exact irem_nI (d := 8) (by omega) (by omega) (by omega)
theorem year_loop {m t : Nat} (hm99 : m ≤ 99) (s3 : Int32) {R : Type} (kx : Int32 → Int32 → Hp → Option R) : ∀ (d x k f g : Nat) (hx hm : Hp), TrS hx hm t → x < 65537 → k + d = m → d < f → d < g →
    ∃ hx' hm' x', f_X4_followDraws_l11 1 (nI m) (fun (w5 : Int32) (w6 : Int32) (h7 : Hp) => some h7) f (nI x) (nI k) hx = some hx' ∧ f_X6_year_l43 (nI m) s3 kx g (nI x) (nI k) hm = kx x' (nI m) hm' ∧ TrS hx' hm' t ∧ FXb hx hx' ∧ FMb hm hm' := by
  intro d
  induction d with
  | zero =>
    intro x k f g hx hm hT hx6 hk hf hg
    obtain ⟨f, rfl⟩ : ∃ f', f = f' + 1 := ⟨f - 1, by omega⟩
    obtain ⟨g, rfl⟩ : ∃ g', g = g' + 1 := ⟨g - 1, by omega⟩
    have : k = m := by omega
    subst this
    exact ⟨hx, hm, nI x, by rw [f_X4_followDraws_l11, if_pos (nI_le (Nat.le_refl k) (by omega))], by rw [f_X6_year_l43, if_pos (nI_le (Nat.le_refl k) (by omega))], hT, FXb.rf _, FMb.rf _⟩
  | succ d ih =>
    intro x k f g hx hm hT hx6 hk hf hg
    obtain ⟨f, rfl⟩ : ∃ f', f = f' + 1 := ⟨f - 1, by omega⟩
    obtain ⟨g, rfl⟩ : ∃ g', g = g' + 1 := ⟨g - 1, by omega⟩
    have ev : irem (((75 : Int32) * nI x) + (74 : Int32)) (65537 : Int32) = nI ((75 * x + 74) % 65537) := by
      rw [show (75 : Int32) = nI 75 from rfl, show (74 : Int32) = nI 74 from rfl, pk_mul, nI_add]
      exact irem_nI (d := 65537) (by omega) (by omega) (by omega)
    have hv : (75 * x + 74) % 65537 < 65537 := Nat.mod_lt _ (by omega)
    rw [f_X4_followDraws_l11, f_X6_year_l43, if_neg (nI_ge (show k < m by omega) (by omega)), if_neg (nI_ge (show k < m by omega) (by omega)), ev]
    generalize (75 * x + 74) % 65537 = v at hv
    simp only [obs]
    rw [f_X4_takeDrawn]
    simp only [obs]
    rw [div8 hv, show irem (nI v) (6 : Int32) = nI (v % 6) from irem_nI (d := 6) (by omega) (by omega) (by omega), show nI v / (48 : Int32) = nI (v / 48) from div_nI (d := 48) (by omega) (by omega) (by omega), show irem (nI (v / 48)) (9 : Int32) = nI (v / 48 % 9) from irem_nI (d := 9) (by omega) (by omega) (by omega), show nI (v / 48) / (9 : Int32) = nI (v / 48 / 9) from div_nI (d := 9) (by omega) (by omega) (by omega), show irem (nI (v / 48 / 9)) (9 : Int32) = nI (v / 48 / 9 % 9) from irem_nI (d := 9) (by omega) (by omega) (by omega), nI_succ']
    have h6 : v % 6 < 6 := Nat.mod_lt _ (by omega)
    have h8 : v / 6 % 8 < 8 := Nat.mod_lt _ (by omega)
    have h9 : v / 48 % 9 < 9 := Nat.mod_lt _ (by omega)
    have h99 : v / 48 / 9 % 9 < 9 := Nat.mod_lt _ (by omega)
    generalize v % 6 = w6 at h6
    generalize v / 6 % 8 = w8 at h8
    generalize v / 48 / 9 % 9 = wb at h99
    generalize v / 48 % 9 = wa at h9
    by_cases q7 : w8 = 7
    · subst q7
      obtain ⟨r, hx1, hm1, a1, a2, a3, a4, a5, -⟩ := day_act hT
      obtain ⟨hx', hm', x', z1, z2, z3, z4, z5⟩ := ih v (k + 1) f g hx1 (ip hm1 0 9 r) (a3.ip0 (by omega) _) hv (by omega) (by omega) (by omega)
      refine ⟨hx', hm', x', ?_, ?_, z3, a4.b.trans z4, (a5.b0 r).trans z5⟩
      · rw [if_pos (show nI 7 = 7 from rfl), a1]; exact z1
      · rw [if_pos (show (5 : Int32) ≤ nI 7 by decide), if_neg (show ¬ nI 7 = 5 by decide), if_neg (show ¬ nI 7 = 6 by decide), a2]; exact z2
    · rw [if_neg (show ¬ nI w8 = 7 from fun q => q7 ((nI_eq (b := 7) (by omega) (by omega)).mp q))]
      by_cases q6 : w8 = 6
      · subst q6
        obtain ⟨r, hx1, hm1, a1, a2, a3, a4, a5, -⟩ := bring_act hT h9 h99
        obtain ⟨hx', hm', x', z1, z2, z3, z4, z5⟩ := ih v (k + 1) f g hx1 (ip hm1 0 9 r) (a3.ip0 (by omega) _) hv (by omega) (by omega) (by omega)
        refine ⟨hx', hm', x', ?_, ?_, z3, a4.b.trans z4, (a5.b0 r).trans z5⟩
        · rw [if_pos (show nI 6 = 6 from rfl), a1]; exact z1
        · rw [if_pos (show (5 : Int32) ≤ nI 6 by decide), if_neg (show ¬ nI 6 = 5 by decide), if_pos (show nI 6 = 6 by decide), a2]; exact z2
      · rw [if_neg (show ¬ nI w8 = 6 from fun q => q6 ((nI_eq (b := 6) (by omega) (by omega)).mp q))]
        by_cases q5 : w8 = 5
        · subst q5
          obtain ⟨r, hx1, hm1, a1, a2, a3, a4, a5, -⟩ := iron_act hT h6
          obtain ⟨hx', hm', x', z1, z2, z3, z4, z5⟩ := ih v (k + 1) f g hx1 (ip hm1 0 9 r) (a3.ip0 (by omega) _) hv (by omega) (by omega) (by omega)
          refine ⟨hx', hm', x', ?_, ?_, z3, a4.b.trans z4, (a5.b0 r).trans z5⟩
          · rw [if_pos (show nI 5 = 5 from rfl), a1]; exact z1
          · rw [if_pos (show (5 : Int32) ≤ nI 5 by decide), if_pos (show nI 5 = 5 by decide), a2]; exact z2
        · rw [if_neg (show ¬ nI w8 = 5 from fun q => q5 ((nI_eq (b := 5) (by omega) (by omega)).mp q))]
          obtain ⟨r, hx1, hm1, a1, a2, a3, a4, a5, -⟩ := walk_act hT h6 h9
          obtain ⟨hx', hm', x', z1, z2, z3, z4, z5⟩ := ih v (k + 1) f g hx1 (ip hm1 0 9 r) (a3.ip0 (by omega) _) hv (by omega) (by omega) (by omega)
          refine ⟨hx', hm', x', ?_, ?_, z3, a4.b.trans z4, (a5.b0 r).trans z5⟩
          · rw [a1]; exact z1
          · rw [if_neg (show ¬ (5 : Int32) ≤ nI w8 from nI_ge (b := 5) (by omega) (by omega)), a2]; exact z2
theorem M_openSum {R : Type} (s3 : Int32) (h : Hp) (kx : Int32 → Int32 → Option R) : f_X6_year_l175 s3 h kx FU 0 0 = kx (sI (fun i => nI (pcn (msk (opn (h.1 2) i) 9) 9)) 9) (nI 9) := by
  refine loop_FU (fun f (q : Int32 × Int32) => f_X6_year_l175 s3 h kx f q.1 q.2) (fun k => (sI (fun i => nI (pcn (msk (opn (h.1 2) i) 9) 9)) k, nI k)) 9 _ (by omega) (fun f k hk => ?_) (fun f => ?_)
  · show f_X6_year_l175 s3 h kx (f + 1) (sI _ k) (nI k) = f_X6_year_l175 s3 h kx f (sI _ (k + 1)) (nI (k + 1))
    rw [f_X6_year_l175, if_neg (g9 hk), M_openFrom h hk]
    simp only [obs]
    rw [bits_ok (msk_lt _ 9)]
    simp only [obs]
    rw [nI_succ']
    rfl
  · show f_X6_year_l175 s3 h kx (f + 1) _ (nI 9) = _
    rw [f_X6_year_l175, if_pos e9]
theorem asNow_same {hx hm : Hp} {t : Nat} (ht : hm.1 0 2 = nI t) (hS : ShR (hx.1 2) (hx.1 3) (hx.1 4) (hx.1 1 3) (hm.1 1) t) : ∃ hx1 hm1, f_X4_begin 1 hx = some hx1 ∧ f_X6_asNow hm = some hm1 ∧ TrS hx1 hm1 t ∧ FXb hx hx1 ∧ FMb hm hm1 := by
  obtain ⟨hx1, -, a1, -, a3, a4, -, -⟩ := begin_same ht hS
  obtain ⟨hx0, y1, y2, y3, y4, y5, y6, y7⟩ := X2_copy 12 1 hx (by omega)
  obtain ⟨hm0, b1, b2, b3, b4, b5, b6⟩ := M_asNow hm
  refine ⟨ip (ip (ip (ip hx0 11 1 0) 11 2 (-6)) 11 3 (-6)) 11 4 (-6), hm0, by rw [f_X4_begin, y1]; rfl, b1, ⟨?_, ?_⟩, fun r hr => ?_, fun q h0 h2 => b5 q h0 h2, fun j hj => b6 j (by omega) (by omega)⟩
  · simp only [ip_row _ 11 _ _ (show 13 ≠ 11 by omega), ip_row _ 11 _ _ (show 14 ≠ 11 by omega), ip_row _ 11 _ _ (show 15 ≠ 11 by omega), ip_row _ 11 _ _ (show 12 ≠ 11 by omega)]
    exact hS.congr y2 y3 y4 y5 b2
  · rw [b6 2 (by omega) (by omega)]; exact ht
  · rw [ip_row _ 11 _ _ (by omega), ip_row _ 11 _ _ (by omega), ip_row _ 11 _ _ (by omega), ip_row _ 11 _ _ (by omega), y7 r (by omega)]
theorem r_year : op_year Rl := by
  intro hx hm x1 x2 x3 hr
  rw [f_X5_year, f_X6_year, wi_eq, wi_eq, wi_eq]
  rcases in_cases x1 0 9999 (by omega) (by omega) with ⟨e, -⟩ | ⟨x, -, hx9, rfl, e⟩
  · rw [show f_X6_in x1 (0 : Int32) (9999 : Int32) = some 0 from e]
    exact ⟨-2, hx, hm, rfl, rfl, hr⟩
  rw [show f_X6_in (nI x) (0 : Int32) (9999 : Int32) = some 1 from e]
  simp only [obs, if_neg one_ne]
  rcases in_cases x2 1 99 (by omega) (by omega) with ⟨e2, -⟩ | ⟨m, hm1, hm9, rfl, e2⟩
  · rw [show f_X6_in x2 (1 : Int32) (99 : Int32) = some 0 from e2]
    exact ⟨-2, hx, hm, rfl, rfl, hr⟩
  rw [show f_X6_in (nI m) (1 : Int32) (99 : Int32) = some 1 from e2]
  simp only [obs, if_neg one_ne]
  rcases in_cases x3 0 2 (by omega) (by omega) with ⟨e3, -⟩ | ⟨w, -, hw, rfl, e3⟩
  · rw [show f_X6_in x3 (0 : Int32) (2 : Int32) = some 0 from e3]
    exact ⟨-2, hx, hm, rfl, rfl, hr⟩
  rw [show f_X6_in (nI w) (0 : Int32) (2 : Int32) = some 1 from e3]
  simp only [obs, if_neg one_ne]
  obtain ⟨⟨t, ht, hS⟩, -⟩ := id hr
  obtain ⟨hx1, hm1, a1, a2, a3, a4, a5⟩ := asNow_same ht hS
  obtain ⟨hx', hm', x', z1, z2, z3, z4, z5⟩ := year_loop hm9 (nI w) (fun (w20 : Int32) (w21 : Int32) (h22 : Hp) => f_X6_year_l175 (nI w) h22 (fun (w27 : Int32) (w28 : Int32) => if nI w = 0 then (Option.bind (f_X6_wearOf  h22) fun v31 => some (v31, h22)) else (if nI w = (1 : Int32) then (Option.bind (f_X6_shutIn  h22) fun v29 => Option.bind (f_X6_bits v29) fun v30 => some (v30, h22)) else (some ((w27 / (2 : Int32)), h22)))) FU (0 : Int32) (0 : Int32)) m x 0 FU FU hx1 hm1 a3 (by omega) (by omega) (by rw [FU_eq]; omega) (by rw [FU_eq]; omega)
  rw [M_openSum] at z2
  rw [f_X4_followDraws, a1, a2]
  simp only [obs]
  rw [show f_X4_followDraws_l11 1 (nI m) (fun (w5 : Int32) (w6 : Int32) (h7 : Hp) => some h7) FU (nI x) (0 : Int32) hx1 = some hx' from z1]
  simp only [obs]
  have z2' := z2
  obtain ⟨mm, m0, m1, m2⟩ := shutIn_same (a := 12) z3.1 z3.2
  have hfr := hr.frame (a4.trans z4).eq (a5.trans z5).eq
  have hw3 : w = 0 ∨ w = 1 ∨ w = 2 := by omega
  rcases hw3 with rfl | rfl | rfl
  · refine ⟨sI (fun k => if inb (hx'.1 13 k) 0 9 then hx'.1 13 k else 0) 81 / 2, hx', hm', ?_, z2.trans ?_, hfr⟩
    · rw [if_pos (show nI 0 = 0 from rfl), X_addWear]; rfl
    · rw [if_pos (show nI 0 = 0 from rfl), M_wearOf]
      simp only [obs]
      rw [sI_congr (g := fun k => if inb (hx'.1 13 k) 0 9 then hx'.1 13 k else 0) (fun k hk => by rw [z3.1.1 k hk])]
  · refine ⟨nI (pcn mm 9), hx', hm', ?_, z2.trans ?_, hfr⟩
    · rw [if_neg (show ¬ nI 1 = 0 by decide), if_pos (show nI 1 = 1 from rfl), m1]
      simp only [obs]
      rw [bitCount_ok _ (by omega)]
      rfl
    · rw [if_neg (show ¬ nI 1 = 0 by decide), if_pos (show nI 1 = 1 from rfl), m2]
      simp only [obs]
      rw [bits_ok (by omega)]
      rfl
  · refine ⟨sI (fun i => nI (pcn (msk (opn (hx'.1 13) i) 9) 9)) 9 / 2, hx', hm', ?_, z2.trans ?_, hfr⟩
    · rw [if_neg (show ¬ nI 2 = 0 by decide), if_neg (show ¬ nI 2 = 1 by decide), X_countOpen 12 hx' z3.1.diag]
      rfl
    · rw [if_neg (show ¬ nI 2 = 0 by decide), if_neg (show ¬ nI 2 = 1 by decide)]
      rw [sI_congr (g := fun i => nI (pcn (msk (opn (hx'.1 13) i) 9) 9)) (fun i hi => by rw [z3.1.opm hi])]
