/-! THE DAYS: the acts of the pad, one after another, on both sides. -/
noncomputable def actM (v3 : Int32) (s1 : Int32) (h : Hp) : Option (Int32 × Hp) := if v3 = (46 : Int32) then (Option.bind (f_X6_endDay  h) fun t41 => Option.bind (some (ip t41.2 0 9 t41.1)) fun h42 => Option.bind (some (s1 + (1 : Int32))) fun v43 => some (v43, h42)) else (if v3 = (109 : Int32) then (Option.bind (ald 60 h 4 (s1 + (1 : Int32))) fun v36 => Option.bind (ald 60 h 4 (s1 + (2 : Int32))) fun v37 => Option.bind (f_X6_bring (v36 - (97 : Int32)) (v37 - (97 : Int32)) h) fun t38 => Option.bind (some (ip t38.2 0 9 t38.1)) fun h39 => Option.bind (some (s1 + (3 : Int32))) fun v40 => some (v40, h39)) else (if v3 = (112 : Int32) then (Option.bind (ald 60 h 4 (s1 + (1 : Int32))) fun v29 => Option.bind (ald 60 h 4 (s1 + (2 : Int32))) fun v30 => Option.bind (ald 60 h 4 (s1 + (3 : Int32))) fun v31 => Option.bind (ald 60 h 4 (s1 + (4 : Int32))) fun v32 => Option.bind (f_X6_patch (v29 - (97 : Int32)) (v30 - (97 : Int32)) (v31 - (97 : Int32)) (v32 - (97 : Int32)) h) fun t33 => Option.bind (some (ip t33.2 0 9 t33.1)) fun h34 => Option.bind (some (s1 + (5 : Int32))) fun v35 => some (v35, h34)) else (Option.bind (some (v3 - (65 : Int32))) fun v7 => Option.bind (ald 60 h 4 (s1 + (1 : Int32))) fun v8 => Option.bind (some (v8 - (97 : Int32))) fun v9 => Option.bind (ald 89 h 2 ((81 : Int32) + v7)) fun v10 => Option.bind (ald 60 h 4 (s1 + (1 : Int32))) fun v11 => Option.bind (if v11 = (94 : Int32) then (some (0 : Int32)) else (some (1 : Int32))) fun t13 => Option.bind (if t13 = 0 then (Option.bind (f_X6_shoe v7 h) fun t27 => some (t27.1, t27.2)) else (Option.bind (f_X6_walk v7 v9 h) fun t28 => some (t28.1, t28.2))) fun t15 => Option.bind (some (ip t15.2 0 9 t15.1)) fun h16 => if t13 = 0 then (Option.bind (some (s1 + (2 : Int32))) fun v17 => some (v17, h16)) else (if (h16.1 0 9) = 0 then (Option.bind (ald 89 h16 2 (((9 : Int32) * v10) + v9)) fun v19 => if v19 = (9 : Int32) then (if 0 ≤ (h16.1 0 7) then (Option.bind (some (s1 + (2 : Int32))) fun v21 => some (v21, h16)) else (Option.bind (some (ip h16 0 7 (h16.1 0 10))) fun h22 => if v9 ≤ v10 then (Option.bind (some (ip h22 0 8 (((10 : Int32) * v9) + v10))) fun h23 => Option.bind (some (s1 + (2 : Int32))) fun v24 => some (v24, h23)) else (Option.bind (some (ip h22 0 8 (((10 : Int32) * v10) + v9))) fun h25 => Option.bind (some (s1 + (2 : Int32))) fun v26 => some (v26, h25)))) else (Option.bind (some (s1 + (2 : Int32))) fun v20 => some (v20, h16))) else (Option.bind (some (s1 + (2 : Int32))) fun v18 => some (v18, h16))))))
theorem M_step (kx : Int32 → Hp → Option (Int32 × Hp)) (n : Nat) (s1 : Int32) (h : Hp) : f_X6_goDays_l11 kx (n + 1) s1 h = if (h.1 0 5) ≤ s1 then (kx s1 h) else (Option.bind (ald 60 h 4 s1) fun v3 => Option.bind (actM v3 s1 h) fun t5 => if (t5.2.1 0 9) ≤ 0 then (Option.bind (some (ip t5.2 0 10 ((t5.2.1 0 10) + (1 : Int32)))) fun h6 => f_X6_goDays_l11 kx n t5.1 h6) else (some ((t5.2.1 0 10), t5.2))) := rfl
theorem chkG_none {c : Nat → Nat} {n : Nat} {q : Nat → Bool} : ∀ j k, chkG c n q k j = none → ∀ i, i < j → k + i < n ∧ q (c (k + i)) = true := by
  intro j
  induction j with
  | zero => intro k _ i hi; omega
  | succ j ih =>
    intro k h i hi
    rw [chkG] at h
    by_cases hb : n ≤ k
    · rw [if_pos hb] at h; cases h
    · rw [if_neg hb] at h
      cases hq : q (c k) with
      | false => rw [hq, if_neg (by decide)] at h; cases h
      | true =>
        rw [hq, if_pos rfl] at h
        by_cases h0 : i = 0
        · subst h0; exact ⟨by omega, by rw [Nat.add_zero]; exact hq⟩
        · have := ih (k + 1) h (i - 1) (by omega)
          rw [show k + 1 + (i - 1) = k + i by omega] at this
          exact this
theorem TrS.ip0 {hx hm : Hp} {t : Nat} (h : TrS hx hm t) {j : Nat} (hj : j ≠ 2) (v : Int32) : TrS hx (ip hm 0 j v) t := by
  refine ⟨?_, ?_⟩
  · rw [ip_row _ 0 _ _ (by omega)]; exact h.1
  · rw [ip_n _ 0 _ _ (Or.inr (by omega))]; exact h.2
def StepR (hx hm hx1 hm1 : Hp) (r : Int32) (t : Nat) : Prop :=
  TrS hx1 hm1 t ∧ FX hx hx1 ∧ (∀ q, q ≠ 0 → q ≠ 2 → hm1.1 q = hm.1 q) ∧ (∀ j, j ≠ 7 → j ≠ 8 → j ≠ 9 → hm1.1 0 j = hm.1 0 j) ∧ hm1.1 0 9 = r ∧
  ((∃ k : Nat, 1 ≤ k ∧ k ≤ 7 ∧ r = nI k) ∨ (r = 0 ∧ ((hm1.1 0 7 = hm.1 0 7 ∧ hm1.1 0 8 = hm.1 0 8 ∧ hx1.1 12 4 = hx.1 12 4) ∨ (hm.1 0 7 = -6 ∧ ∃ w : Nat, w ≤ 100 ∧ hm1.1 0 7 = hm.1 0 10 ∧ hm1.1 0 8 = nI w ∧ hx1.1 12 4 = nI w))))
theorem StepR.simple {hx hm hx1 hm1 : Hp} {r : Int32} {t : Nat} (h : TrS hx1 hm1 t) (hX : FX hx hx1) (hM : FM hm hm1) (h4 : hx1.1 12 4 = hx.1 12 4) (hr : r = 0 ∨ ∃ k : Nat, 1 ≤ k ∧ k ≤ 7 ∧ r = nI k) : StepR hx hm hx1 (ip hm1 0 9 r) r t := by
  refine ⟨h.ip0 (by omega) _, hX, fun q h0 h2 => by rw [ip_row _ _ _ _ h0]; exact hM q h2, fun j _ _ h9 => by rw [ip_n _ _ _ _ (Or.inr h9), hM 0 (by omega)], ip_s _ _ _ _, ?_⟩
  rcases hr with hr | hr
  · refine Or.inr ⟨hr, Or.inl ⟨?_, ?_, h4⟩⟩
    · rw [ip_n _ _ _ _ (Or.inr (by omega)), hM 0 (by omega)]
    · rw [ip_n _ _ _ _ (Or.inr (by omega)), hM 0 (by omega)]
  · exact Or.inl hr
theorem c_sub65 : ∀ c, c < 127 → 65 ≤ c → nI c - (65 : Int32) = nI (c - 65) := by decide +kernel
theorem c_sub97 : ∀ c, c < 127 → 97 ≤ c → nI c - (97 : Int32) = nI (c - 97) := by decide +kernel
theorem c_lo : ∀ c, c < 127 → lenC c = 2 → 65 ≤ c ∧ c - 65 < 6 := by decide +kernel
theorem c_lp : ∀ c, c < 127 → plC c = true → 97 ≤ c ∧ c - 97 < 9 := by decide +kernel
section DAYS
variable {hx hm : Hp} {c : Nat → Nat} {n t : Nat}
theorem X_place (h : PadOK hx hm c n) {i : Nat} (hi : i < n) (hp : plC (c i) = true) : ∃ p, p < 9 ∧ c i - 97 = p ∧ f_X1_placeAt (nI i) hx = some (nI p) ∧ nI (c i) - (97 : Int32) = nI p := by
  obtain ⟨-, -, -, h3⟩ := h.2.2.2 i hi
  obtain ⟨h1, h2⟩ := c_lp _ h3 hp
  refine ⟨c i - 97, h2, rfl, ?_, c_sub97 _ h3 h1⟩
  rw [f_X1_placeAt, X_sign h hi]
  simp only [obs]
  rw [c_sub97 _ h3 h1]
theorem X_placeE (h : Hp) (k : Nat) (hk : k < 2 ^ 31) : ∃ v, f_X1_placeAt (nI k) h = some v := by
  by_cases h6 : k < 60
  · exact ⟨h.1 10 k - 97, by rw [f_X1_placeAt, f_X1_signAt, at_ok _ _ h6 (by omega)]; rfl⟩
  · refine ⟨0 - 97, ?_⟩
    rw [f_X1_placeAt, f_X1_signAt, f_X5_at, if_neg (Int32.not_lt.mpr (nI_pos' hk)), if_pos (show Int32.ofNat 60 ≤ nI k from nI_le (a := 60) (by omega) hk)]
    rfl
theorem take_same (h : PadOK hx hm c n) (hT : TrS hx hm t) {s : Nat} (hs : s < n) (hE : errA c n s = none) (hW : (hm.1 0 7 = -6 ∧ hx.1 12 4 = -6) ∨ ((∃ b : Nat, b ≤ 60 ∧ hm.1 0 7 = nI b) ∧ ∃ w : Nat, w ≤ 100 ∧ hx.1 12 4 = nI w)) : ∃ r hx1 hm1, f_X4_take (nI s) hx = some (r, hx1) ∧ actM (nI (c s)) (nI s) hm = some (nI (s + lenC (c s)), hm1) ∧ StepR hx hm hx1 hm1 r t := by
  obtain ⟨-, -, -, e2⟩ := h.2.2.2 s hs
  have hn := h.1
  obtain ⟨q3, q5, q1, n3, n5, n1, qc⟩ := lenC_cases _ e2
  unfold errA at hE
  have h0 : ¬ lenC (c s) = 0 := fun q => by rw [if_pos q] at hE; cases hE
  rw [if_neg h0] at hE
  have hN := chkG_none _ _ hE
  have hal : ∀ i, i < n → ald 60 hm 4 (nI i) = some (nI (c i)) := fun i hi => by
    rw [ald_ok _ _ (show i < 60 by omega) (by omega), (h.2.2.2 i hi).2.1]
  unfold f_X4_take
  rw [X_sign h hs]
  simp only [obs]
  by_cases h1 : lenC (c s) = 1
  · have e9 : nI (c s) = (46 : Int32) := by rw [q1 h1]; rfl
    obtain ⟨r, hx1, hm1, a1, a2, a3, a4, a5, a6, a7⟩ := day_act hT
    refine ⟨r, hx1, ip hm1 0 9 r, ?_, ?_, StepR.simple a3 a4 a5 a6 ?_⟩
    · rw [if_pos e9, a1]; rfl
    · unfold actM
      rw [if_pos e9, a2, h1, ← nI_succ']; rfl
    · rcases a7 with q | q
      · exact Or.inl q
      · exact Or.inr ⟨7, by omega, by omega, q⟩
  · have e46 : ¬ nI (c s) = (46 : Int32) := fun q => n1 h1 ((c_eq (d := 46) e2 (by omega)).mp q)
    rw [if_neg e46, show (2 : Int32) = nI 2 from rfl, nI_succ', nI_add]
    unfold actM
    rw [if_neg e46]
    by_cases h3 : lenC (c s) = 3
    · have e9 : nI (c s) = (109 : Int32) := by rw [q3 h3]; rfl
      rw [nxt_pl s (by omega), h3] at hN
      obtain ⟨b1, b2⟩ := hN 0 (by omega)
      obtain ⟨d1, d2⟩ := hN 1 (by omega)
      obtain ⟨i, hi, -, xi, mi⟩ := X_place h b1 b2
      obtain ⟨j, hj, -, xj, mj⟩ := X_place h d1 d2
      obtain ⟨r, hx1, hm1, a1, a2, a3, a4, a5, a6, a7⟩ := bring_act hT hi hj
      refine ⟨r, hx1, ip hm1 0 9 r, ?_, ?_, StepR.simple a3 a4 a5 (by rw [a6]) ?_⟩
      · rw [show s + 2 = s + 1 + 1 by omega, xj, show s + 1 = s + 1 + 0 by omega, xi]
        simp only [obs]
        rw [if_pos e9, a1]
        rfl
      · rw [if_pos e9, show (2 : Int32) = nI 2 from rfl, show (3 : Int32) = nI 3 from rfl, nI_succ', nI_add, nI_add, h3, hal (s + 1) b1, hal (s + 2) d1]
        simp only [obs]
        rw [show nI (c (s + 1)) - (97 : Int32) = nI i from mi, show nI (c (s + 2)) - (97 : Int32) = nI j from mj, a2]
        rfl
      · rcases a7 with q | q | q
        · exact Or.inl q
        · exact Or.inr ⟨3, by omega, by omega, q⟩
        · exact Or.inr ⟨4, by omega, by omega, q⟩
    · have e109 : ¬ nI (c s) = (109 : Int32) := fun q => n3 h3 ((c_eq (d := 109) e2 (by omega)).mp q)
      rw [if_neg e109]
      by_cases h5 : lenC (c s) = 5
      · have e9 : nI (c s) = (112 : Int32) := by rw [q5 h5]; rfl
        rw [nxt_pl s (by omega), h5] at hN
        obtain ⟨b1, b2⟩ := hN 0 (by omega)
        obtain ⟨d1, d2⟩ := hN 1 (by omega)
        obtain ⟨f1, f2⟩ := hN 2 (by omega)
        obtain ⟨g1, g2⟩ := hN 3 (by omega)
        obtain ⟨i, hi, -, xi, mi⟩ := X_place h b1 b2
        obtain ⟨j, hj, -, xj, mj⟩ := X_place h d1 d2
        obtain ⟨k, hk, -, xk, mk⟩ := X_place h f1 f2
        obtain ⟨l, hl, -, xl, ml⟩ := X_place h g1 g2
        obtain ⟨r, hx1, hm1, a1, a2, a3, a4, a5, a6, a7⟩ := patch_act hT hi hj hk hl
        refine ⟨r, hx1, ip hm1 0 9 r, ?_, ?_, StepR.simple a3 a4 a5 (by rw [a6]) ?_⟩
        · rw [show f_X1_placeAt (nI (s + 1)) hx = some (nI i) from xi, show f_X1_placeAt (nI (s + 2)) hx = some (nI j) from xj, show f_X1_placeAt (nI s + (3 : Int32)) hx = some (nI k) from (by rw [show (3 : Int32) = nI 3 from rfl, nI_add]; exact xk), show f_X1_placeAt (nI s + (4 : Int32)) hx = some (nI l) from (by rw [show (4 : Int32) = nI 4 from rfl, nI_add]; exact xl)]
          simp only [obs]
          rw [if_neg e109, if_pos e9, a1]
          rfl
        · rw [if_pos e9, show (2 : Int32) = nI 2 from rfl, show (3 : Int32) = nI 3 from rfl, show (4 : Int32) = nI 4 from rfl, show (5 : Int32) = nI 5 from rfl, nI_succ', nI_add, nI_add, nI_add, nI_add, h5, hal (s + 1) b1, hal (s + 2) d1, hal (s + 3) f1, hal (s + 4) g1]
          simp only [obs]
          rw [show nI (c (s + 1)) - (97 : Int32) = nI i from mi, show nI (c (s + 2)) - (97 : Int32) = nI j from mj, show nI (c (s + 3)) - (97 : Int32) = nI k from mk, show nI (c (s + 4)) - (97 : Int32) = nI l from ml, a2]
          rfl
        · rcases a7 with q | q | q | q
          · exact Or.inl q
          · exact Or.inr ⟨3, by omega, by omega, q⟩
          · exact Or.inr ⟨4, by omega, by omega, q⟩
          · exact Or.inr ⟨6, by omega, by omega, q⟩
      · have e112 : ¬ nI (c s) = (112 : Int32) := fun q => n5 h5 ((c_eq (d := 112) e2 (by omega)).mp q)
        have h2 : lenC (c s) = 2 := by omega
        rw [if_neg e112]
        obtain ⟨k1, k2⟩ := c_lo _ e2 h2
        rw [h2] at hN
        obtain ⟨b1, b2⟩ := hN 0 (by omega)
        obtain ⟨-, -, -, e4⟩ := h.2.2.2 (s + 1) b1
        obtain ⟨v2, hv2⟩ := X_placeE hx (s + 2) (by omega)
        obtain ⟨v1, hv1⟩ := X_placeE hx (s + 1) (by omega)
        rw [hv1, hv2]
        simp only [obs]
        rw [if_neg e109, if_neg e112, c_sub65 _ e2 k1, show (2 : Int32) = nI 2 from rfl, nI_succ', nI_add, hal (s + 1) b1, X_sign h b1, h2]
        simp only [obs]
        by_cases h94 : c (s + 1) = 94
        · have e9 : nI (c (s + 1)) = (94 : Int32) := by rw [h94]; rfl
          obtain ⟨r, hx1, hm1, a1, a2, a3, a4, a5, a6, a7⟩ := iron_act hT k2
          refine ⟨r, hx1, ip hm1 0 9 r, ?_, ?_, StepR.simple a3 a4 a5 (by rw [a6]) ?_⟩
          · rw [if_pos e9, a1]; rfl
          · rw [ix81, ald_ok _ _ (show 81 + (c s - 65) < 89 by omega) (by omega), if_pos e9]
            simp only [obs]
            rw [if_pos trivial, a2]
            rfl
          · rcases a7 with q | q
            · exact Or.inl q
            · exact Or.inr ⟨1, by omega, by omega, q⟩
        · have e9 : ¬ nI (c (s + 1)) = (94 : Int32) := fun q => h94 ((c_eq (d := 94) e4 (by omega)).mp q)
          have hp : plC (c (s + 1)) = true := by
            have : nxt c s (c (s + 1)) = true := b2
            unfold nxt at this
            simpa [h94] using this
          obtain ⟨p, hp9, -, xp, mp⟩ := X_place h b1 hp
          have ev : v1 = nI p := Option.some.inj (hv1.symm.trans xp)
          obtain ⟨r, hx1, hm1, a1, a2, a3, a4, a5, a7⟩ := walk_act hT k2 hp9
          have eX : (Option.bind (f_X2_walk 12 (nI (c s - 65)) v1 hx) fun t5 => some (t5.1, t5.2)) = some (r, hx1) := by rw [ev, a1]; rfl
          rw [if_neg e9, eX]
          rw [ix81, ald_ok _ _ (show 81 + (c s - 65) < 89 by omega) (by omega)]
          simp only [obs]
          rw [if_neg e9]
          simp only [obs]
          rw [if_neg one_ne, show nI (c (s + 1)) - (97 : Int32) = nI p from mp, a2]
          simp only [obs]
          rw [ip_s, if_neg one_ne]
          rcases a7 with ⟨rfl, f, hf9, h81, h4⟩ | ⟨hr, rfl⟩
          · rw [if_pos rfl, h81, ix9', ald_ok _ _ (show 9 * f + p < 89 by omega) (by omega), ip_row _ 0 _ _ (show 2 ≠ 0 by omega)]
            simp only [obs]
            have e7 : (ip hm1 0 9 0).1 0 7 = hm.1 0 7 := by rw [ip_n _ 0 _ _ (Or.inr (by omega)), a5 0 (by omega)]
            by_cases q9 : hm1.1 2 (9 * f + p) = 9
            · rw [if_pos q9, e7]
              rcases hW with ⟨w1, w2⟩ | ⟨⟨b, w0, w1⟩, w, w2, w3⟩
              · rw [w1, if_neg (by decide)]
                rw [if_pos ⟨q9, w2⟩] at h4
                have e10 : (ip hm1 0 9 0).1 0 10 = hm.1 0 10 := by rw [ip_n _ 0 _ _ (Or.inr (by omega)), a5 0 (by omega)]
                rw [e10]
                have hnam : nam f p ≤ 100 := by unfold nam; omega
                refine ⟨0, hx1, ip (ip (ip hm1 0 9 0) 0 7 (hm.1 0 10)) 0 8 (nI (nam f p)), rfl, ?_, ((a3.ip0 (by omega) _).ip0 (by omega) _).ip0 (by omega) _, a4, ?_, ?_, ?_, Or.inr ⟨rfl, Or.inr ⟨w1, nam f p, hnam, ?_, ?_, h4⟩⟩⟩
                · by_cases hpf : p ≤ f
                  · rw [if_pos (nI_le hpf (by omega)), show (10 : Int32) = nI 10 from rfl, pk_mul, nI_add, show 10 * p + f = nam f p by unfold nam; omega]
                  · rw [if_neg (nI_ge (by omega) (by omega)), show (10 : Int32) = nI 10 from rfl, pk_mul, nI_add, show 10 * f + p = nam f p by unfold nam; omega]
                · intro q k0 k2
                  rw [ip_row _ 0 _ _ k0, ip_row _ 0 _ _ k0, ip_row _ 0 _ _ k0, a5 q k2]
                · intro j j7 j8 j9
                  rw [ip_n _ 0 _ _ (Or.inr j8), ip_n _ 0 _ _ (Or.inr j7), ip_n _ 0 _ _ (Or.inr j9), a5 0 (by omega)]
                · rw [ip_n _ 0 _ _ (Or.inr (by omega)), ip_n _ 0 _ _ (Or.inr (by omega)), ip_s]
                · rw [ip_n _ 0 _ _ (Or.inr (by omega)), ip_s]
                · rw [ip_s]
              · rw [w1, if_pos (nI_pos' (by omega))]
                rw [if_neg (fun q => neg6 (by omega) (w3.symm.trans q.2))] at h4
                exact ⟨0, hx1, ip hm1 0 9 0, rfl, rfl, StepR.simple a3 a4 a5 h4 (Or.inl rfl)⟩
            · rw [if_neg q9]
              rw [if_neg (fun q => q9 q.1)] at h4
              exact ⟨0, hx1, ip hm1 0 9 0, rfl, rfl, StepR.simple a3 a4 a5 h4 (Or.inl rfl)⟩
          · have hk : ∃ k : Nat, 1 ≤ k ∧ k ≤ 7 ∧ r = nI k := by
              rcases hr with q | q | q | q | q
              · exact ⟨1, by omega, by omega, q⟩
              · exact ⟨2, by omega, by omega, q⟩
              · exact ⟨3, by omega, by omega, q⟩
              · exact ⟨4, by omega, by omega, q⟩
              · exact ⟨5, by omega, by omega, q⟩
            rw [if_neg (by obtain ⟨k, k3, k4, k5⟩ := hk; rw [k5]; exact nzn (by omega) (by omega))]
            exact ⟨r, hx1, ip hm1 0 9 r, rfl, rfl, StepR.simple a3 a4 a5 rfl (Or.inr hk)⟩
end DAYS
