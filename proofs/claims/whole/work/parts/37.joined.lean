/-! WHAT IS JOINED, both sides. -/
theorem holds_ok {m k : Nat} (hm : m < 2 ^ 31) (hk : k < 32) : f_X5_holds (nI m) (nI k) = some (b2 (m.testBit k)) := by
  rw [f_X5_holds, bit_nI hm hk]
  cases m.testBit k <;> rfl
theorem x_left0 : ∀ m, m < 512 → nI m &&& ((0 : Int32) ^^^ (-1 : Int32)) = nI m := by decide +kernel
theorem x_left1 : ∀ j, j < 9 → ∀ m, m < 512 → nI m &&& (nI (2 ^ j) ^^^ (-1 : Int32)) = nI (if m.testBit j = true then m - 2 ^ j else m) := by decide +kernel
theorem x_left2 : ∀ j, j < 9 → ∀ m, m < 512 → ∀ v, v < 9 → (if m.testBit j = true then m - 2 ^ j else m).testBit v = (m.testBit v && decide (v ≠ j)) := by decide +kernel
section REACH
variable {h : Hp} {a i b : Nat}
theorem X_l27 {T : Type} (hd : ∀ i, i < 9 → h.1 (a + 1) (9 * i + i) = -6) (hi : i < 9) (hb : b < 512) (s4 : Int32) (r : Nat) (kx : Int32 → Int32 → Option T) :
    f_X2_reached_l27 a (nI i) s4 h kx FU (nI (xr (opn (h.1 (a + 1))) i b (9 * r))) 0 = kx (nI (xr (opn (h.1 (a + 1))) i b (9 * (r + 1)))) (nI 9) := by
  refine loop_FU (fun f (q : Int32 × Int32) => f_X2_reached_l27 a (nI i) s4 h kx f q.1 q.2) (fun k => (nI (xr (opn (h.1 (a + 1))) i b (9 * r + k)), nI k)) 9 _ (by omega) (fun f k hk => ?_) (fun f => ?_)
  · show f_X2_reached_l27 a (nI i) s4 h kx (f + 1) (nI (xr (opn (h.1 (a + 1))) i b (9 * r + k))) (nI k) = f_X2_reached_l27 a (nI i) s4 h kx f (nI (xr (opn (h.1 (a + 1))) i b (9 * r + k + 1))) (nI (k + 1))
    have hlt := xr_lt (g := opn (h.1 (a + 1))) (i := i) hb (9 * r + k)
    rw [xr, show (9 * r + k) % 9 = k by omega]
    generalize xr (opn (h.1 (a + 1))) i b (9 * r + k) = m at hlt
    rw [f_X2_reached_l27, if_neg (g9 hk)]
    by_cases e : k = i
    · rw [if_pos e, if_pos (by rw [e]), nI_succ']
      simp only [obs]
    · rw [if_neg e, if_neg (show ¬ nI k = nI i from fun q => e ((nI_eq (by omega) (by omega)).mp q)), holds_ok (by omega) (by omega)]
      simp only [obs]
      cases ht : m.testBit k with
      | false => rw [if_pos b2_f, if_neg (by decide), nI_succ']
      | true =>
        rw [if_neg (show ¬ b2 true = 0 by decide), if_pos rfl, X_openFrom a h hk hd]
        simp only [obs]
        rw [nI_or, nI_succ']
  · show f_X2_reached_l27 a (nI i) s4 h kx (f + 1) (nI (xr (opn (h.1 (a + 1))) i b (9 * r + 9))) (nI 9) = _
    rw [f_X2_reached_l27, if_pos e9]
    rfl
theorem X_l17 {T : Type} (hd : ∀ i, i < 9 → h.1 (a + 1) (9 * i + i) = -6) (hi : i < 9) (hb : b < 512) (kx : Int32 → Int32 → Option T) :
    f_X2_reached_l17 a (nI i) h kx FU (nI b) 1 = kx (nI (xr (opn (h.1 (a + 1))) i b (9 * 8))) (nI 9) := by
  refine loop_FU (fun f (q : Int32 × Int32) => f_X2_reached_l17 a (nI i) h kx f q.1 q.2) (fun k => (nI (xr (opn (h.1 (a + 1))) i b (9 * k)), nI (k + 1))) 8 _ (by omega) (fun f k hk => ?_) (fun f => ?_)
  · show f_X2_reached_l17 a (nI i) h kx (f + 1) (nI (xr (opn (h.1 (a + 1))) i b (9 * k))) (nI (k + 1)) = f_X2_reached_l17 a (nI i) h kx f (nI (xr (opn (h.1 (a + 1))) i b (9 * (k + 1)))) (nI (k + 1 + 1))
    rw [f_X2_reached_l17, if_neg (g9 (by omega)), X_l27 hd hi hb]
    simp only [obs]
    rw [nI_succ']
  · show f_X2_reached_l17 a (nI i) h kx (f + 1) _ (nI 9) = _
    rw [f_X2_reached_l17, if_pos e9]
theorem X_joined (hd : ∀ i, i < 9 → h.1 (a + 1) (9 * i + i) = -6) (hi : i < 9) : f_X2_reached a (nI i) 0 h = some (nI (msk (rsb (opn (h.1 (a + 1))) i) 9)) := by
  have hm := msk_lt (opn (h.1 (a + 1)) i) 9
  have h2 : 2 ^ i < 512 := Nat.pow_lt_pow_right (n := 9) (by omega) hi
  rw [f_X2_reached, X_openFrom a h hi hd]
  simp only [obs]
  rw [x_left0 _ hm, sh1 i (by omega), nI_or, X_l17 hd hi (Nat.or_lt_two_pow (n := 9) h2 hm), xr_is (g' := opn (h.1 (a + 1))) hi (Nat.or_lt_two_pow (n := 9) h2 hm) (fun _ _ _ => rfl) (fun v hv => by
    rw [Nat.testBit_or, Nat.testBit_two_pow, msk_bit]
    by_cases e : v = i
    · subst e; simp
    · have : ¬ i = v := fun q => e q.symm
      simp [e, this, hv])]
def cut (g : Nat → Nat → Bool) (i j : Nat) : Nat → Nat → Bool := fun u v => g u v && !((decide (u = i) && decide (v = j)) || (decide (u = j) && decide (v = i)))
def cut1 (g : Nat → Nat → Bool) (i j : Nat) : Nat → Nat → Bool := fun u v => g u v && !(decide (u = i) && decide (v = j))
theorem cut_same (g : Nat → Nat → Bool) {i j : Nat} (v : Nat) (hv : v < 9) : rsb (cut1 g i j) i v = rsb (cut g i j) i v := by
  cases h1 : rsb (cut1 g i j) i v with
  | true =>
    refine (rsb_sub (cut1 g i j) i (fun v => rsb (cut g i j) i v = true) (rsb_self _ _) (fun u w hu hw hT he => ?_) hv h1).symm
    by_cases e : w = i
    · rw [e]; exact rsb_self _ _
    · refine rsb_next _ _ hu hw hT ?_
      unfold cut
      unfold cut1 at he
      simp [e] at he ⊢
      exact he
  | false =>
    cases h2 : rsb (cut g i j) i v with
    | false => rfl
    | true =>
      have := rsb_sub (cut g i j) i (fun v => rsb (cut1 g i j) i v = true) (rsb_self _ _) (fun u w hu hw hT he => by
        refine rsb_next _ _ hu hw hT ?_
        unfold cut at he
        unfold cut1
        simp at he ⊢
        exact ⟨he.1, he.2.1⟩) hv h2
      rw [h1] at this
      cases this
theorem X_joined1 (hd : ∀ i, i < 9 → h.1 (a + 1) (9 * i + i) = -6) (hi : i < 9) {j : Nat} (hj : j < 9) (hn : i ≠ j) : f_X2_reached a (nI i) ((1 : Int32) <<< (nI j &&& 31)) h = some (nI (msk (rsb (cut (opn (h.1 (a + 1))) i j) i) 9)) := by
  have hm := msk_lt (opn (h.1 (a + 1)) i) 9
  have h2 : 2 ^ i < 512 := Nat.pow_lt_pow_right (n := 9) (by omega) hi
  have hm2 : (if (msk (opn (h.1 (a + 1)) i) 9).testBit j = true then msk (opn (h.1 (a + 1)) i) 9 - 2 ^ j else msk (opn (h.1 (a + 1)) i) 9) < 512 := by
    split
    · exact Nat.lt_of_le_of_lt (Nat.sub_le _ _) hm
    · exact hm
  rw [f_X2_reached, X_openFrom a h hi hd]
  simp only [obs]
  rw [sh1 j (by omega), x_left1 j hj _ hm, sh1 i (by omega), nI_or, X_l17 hd hi (Nat.or_lt_two_pow (n := 9) h2 hm2), xr_is (g' := cut1 (opn (h.1 (a + 1))) i j) hi (Nat.or_lt_two_pow (n := 9) h2 hm2) (fun u v hu => by unfold cut1; simp [hu]) (fun v hv => by
    rw [Nat.testBit_or, Nat.testBit_two_pow, x_left2 j hj _ hm v hv, msk_bit]
    unfold cut1
    by_cases e : v = i
    · subst e; simp
    · have : ¬ i = v := fun q => e q.symm
      simp [e, this, hv])]
  rw [msk_congr (fun v hv => cut_same (opn (h.1 (a + 1))) v hv)]
theorem M_l16 {T : Type} {m : Nat} (hm : m < 512) (kx : Int32 → Int32 → Option T) : f_X6_partOf_l16 (nI m) h kx FU (nI m) 0 = kx (nI (cl (opn (h.1 2)) m 9)) (nI 9) := by
  refine loop_FU (fun f (q : Int32 × Int32) => f_X6_partOf_l16 (nI m) h kx f q.1 q.2) (fun k => (nI (cl (opn (h.1 2)) m k), nI k)) 9 _ (by omega) (fun f k hk => ?_) (fun f => ?_)
  · show f_X6_partOf_l16 (nI m) h kx (f + 1) (nI (cl (opn (h.1 2)) m k)) (nI k) = f_X6_partOf_l16 (nI m) h kx f (nI (cl (opn (h.1 2)) m (k + 1))) (nI (k + 1))
    rw [f_X6_partOf_l16, if_neg (g9 hk), has_ok (by omega) (by omega), cl]
    simp only [obs]
    rw [M_openFrom h hk]
    simp only [obs]
    cases ht : m.testBit k with
    | false =>
      rw [if_pos b2_f, if_neg (by decide), nI_succ']
      simp only [obs]
      rw [show (0 : Int32) = nI 0 from rfl, nI_or]
    | true =>
      rw [if_neg (show ¬ b2 true = 0 by decide), if_pos rfl, nI_succ']
      simp only [obs]
      rw [nI_or]
  · show f_X6_partOf_l16 (nI m) h kx (f + 1) _ (nI 9) = _
    rw [f_X6_partOf_l16, if_pos e9]
theorem M_l6 {T : Type} (hi : i < 9) (kx : Int32 → Int32 → Option T) : ∀ d m p fuel, m < 512 → p < 512 → 512 - m ≤ d → d + 2 ≤ fuel → m.testBit i = true → (∀ v, v < 9 → m.testBit v = true → rsb (opn (h.1 2)) i v = true) → (p = 0 ∨ m = cl (opn (h.1 2)) p 9) →
    f_X6_partOf_l6 h kx fuel (nI m) (nI p) = kx (nI (msk (rsb (opn (h.1 2)) i) 9)) (nI (msk (rsb (opn (h.1 2)) i) 9)) := by
  have hend : ∀ m, m < 512 → m.testBit i = true → (∀ v, v < 9 → m.testBit v = true → rsb (opn (h.1 2)) i v = true) → m = cl (opn (h.1 2)) m 9 → m = msk (rsb (opn (h.1 2)) i) 9 := by
    intro m hm hmi hs hc
    refine msk_is hm (fun v hv => ?_)
    cases hr : rsb (opn (h.1 2)) i v with
    | true =>
      refine rsb_sub (opn (h.1 2)) i (fun v => m.testBit v = true) hmi (fun u w hu hw hT he => ?_) hv hr
      rw [hc]
      exact (cl_bit _ m w hw 9).mpr (Or.inr ⟨u, hu, hT, he⟩)
    | false =>
      cases hq : m.testBit v with
      | false => rfl
      | true =>
        have := hs v hv hq
        rw [hr] at this
        cases this
  intro d
  induction d with
  | zero => intro m p fuel hm _ hd; exact absurd hd (by omega)
  | succ d ih =>
    intro m p fuel hm hp hd hf hmi hs hc
    obtain ⟨fuel, rfl⟩ : ∃ f', fuel = f' + 1 := ⟨fuel - 1, by omega⟩
    rw [f_X6_partOf_l6]
    by_cases e : m = p
    · subst e
      have hne : m ≠ 0 := fun q => by rw [q] at hmi; simp at hmi
      rw [if_pos rfl, ← hend m hm hmi hs (hc.resolve_left hne)]
    · rw [if_neg (show ¬ nI m = nI p from fun q => e ((nI_eq (by omega) (by omega)).mp q)), M_l16 hm]
      have hs' : ∀ v, v < 9 → (cl (opn (h.1 2)) m 9).testBit v = true → rsb (opn (h.1 2)) i v = true := by
        intro v hv hq
        rcases (cl_bit _ m v hv 9).mp hq with h1 | ⟨u, h1, h2, h3⟩
        · exact hs v hv h1
        · exact rsb_next _ _ h1 hv (hs u h1 h2) h3
      have hmi' : (cl (opn (h.1 2)) m 9).testBit i = true := (cl_bit _ m i hi 9).mpr (Or.inl hmi)
      by_cases e2 : cl (opn (h.1 2)) m 9 = m
      · obtain ⟨fuel, rfl⟩ : ∃ f', fuel = f' + 1 := ⟨fuel - 1, by omega⟩
        rw [e2, f_X6_partOf_l6, if_pos rfl, ← hend m hm hmi hs e2.symm]
      · have hge := cl_ge (opn (h.1 2)) m 9
        have hlt := cl_lt (g := opn (h.1 2)) hm 9
        exact ih _ m fuel hlt hm (by omega) (by omega) hmi' hs' (Or.inr rfl)
theorem M_part (h : Hp) (hi : i < 9) : f_X6_partOf (nI i) h = some (nI (msk (rsb (opn (h.1 2)) i) 9)) := by
  have h2 : 2 ^ i < 512 := Nat.pow_lt_pow_right (n := 9) (by omega) hi
  rw [f_X6_partOf]
  simp only [obs]
  rw [sh1 i (by omega)]
  refine M_l6 hi _ 512 (2 ^ i) 0 FU h2 (by omega) (Nat.sub_le _ _) (by rw [FU_eq]; omega) (by rw [Nat.testBit_two_pow]; simp) (fun v hv hq => ?_) (Or.inl rfl)
  rw [Nat.testBit_two_pow] at hq
  rw [← of_decide_eq_true hq]
  exact rsb_self _ _
end REACH
