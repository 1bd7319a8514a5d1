/-! THE FAULT: the class reads act by act, the reference sign by sign. -/
def lenC (c : Nat) : Nat := if 65 ≤ c ∧ c ≤ 70 then 2 else if c = 109 then 3 else if c = 112 then 5 else if c = 46 then 1 else 0
def plC (c : Nat) : Bool := decide (97 ≤ c ∧ c ≤ 105)
def chkG (c : Nat → Nat) (n : Nat) (q : Nat → Bool) : Nat → Nat → Option Nat
  | _, 0 => none
  | k, j + 1 => if n ≤ k then some n else if q (c k) then chkG c n q (k + 1) j else some k
def nxt (c : Nat → Nat) (s : Nat) : Nat → Bool := fun x => plC x || (decide (lenC (c s) = 2) && decide (x = 94))
def errA (c : Nat → Nat) (n s : Nat) : Option Nat := if lenC (c s) = 0 then some s else chkG c n (nxt c s) (s + 1) (lenC (c s) - 1)
def flt (c : Nat → Nat) (n : Nat) : Nat → Nat → Option Nat
  | 0, _ => none
  | f + 1, s => if n ≤ s then none else match errA c n s with
    | some r => some r
    | none => flt c n f (s + lenC (c s))
def o2i (x : Option Nat) : Int32 := match x with
  | none => -6
  | some r => nI r
def PadOK (hx hm : Hp) (c : Nat → Nat) (n : Nat) : Prop := n ≤ 60 ∧ hx.1 9 1 = nI n ∧ hm.1 0 5 = nI n ∧ ∀ i, i < n → hx.1 10 i = nI (c i) ∧ hm.1 4 i = nI (c i) ∧ 33 ≤ c i ∧ c i < 127
theorem PaR.ok {hx hm : Hp} (h : PaR hx hm) : ∃ c n, PadOK hx hm c n := by
  obtain ⟨n, h1, h2, h3, h4⟩ := h
  have h9 : ∀ i, ∃ c : Nat, i < n → hx.1 10 i = nI c ∧ hm.1 4 i = nI c ∧ 33 ≤ c ∧ c < 127 := by
    intro i
    by_cases hi : i < n
    · obtain ⟨e, c, c1, c2, c3⟩ := h4 i hi
      exact ⟨c, fun _ => ⟨c3, by rw [← e]; exact c3, c1, by omega⟩⟩
    · exact ⟨0, fun q => absurd q hi⟩
  exact ⟨fun i => Classical.choose (h9 i), n, h1, h2, h3, fun i hi => Classical.choose_spec (h9 i) hi⟩
theorem c_len : ∀ c, c < 127 → (Option.bind (f_X5_isWalker (nI c - (65 : Int32))) fun v2 => if v2 = 0 then (if nI c = (109 : Int32) then (some (3 : Int32)) else (if nI c = (112 : Int32) then (some (5 : Int32)) else (if nI c = (46 : Int32) then (some (1 : Int32)) else (some (0 : Int32))))) else (some (2 : Int32))) = some (nI (lenC c)) := by decide +kernel
theorem c_pl : ∀ c, c < 127 → f_X5_isPlace (nI c - (97 : Int32)) = some (b2 (plC c)) := by decide +kernel
theorem c_in97 : ∀ c, c < 127 → f_X6_in (nI c) (97 : Int32) (105 : Int32) = some (b2 (plC c)) := by decide +kernel
theorem c_in65 : ∀ c, c < 127 → f_X6_in (nI c) (65 : Int32) (70 : Int32) = some (b2 (decide (lenC c = 2))) := by decide +kernel
theorem c_eq {c d : Nat} (hc : c < 127) (hd : d < 127) : (nI c = nI d) ↔ c = d := nI_eq (by omega) (by omega)
theorem nzn {m : Nat} (h : m < 2 ^ 31) (h0 : m ≠ 0) : ¬ nI m = 0 := fun q => h0 ((nz0 h).mp q)
section PARSE
variable {hx hm : Hp} {c : Nat → Nat} {n : Nat}
theorem X_sign (h : PadOK hx hm c n) {i : Nat} (hi : i < n) : f_X1_signAt (nI i) hx = some (nI (c i)) := by
  rw [f_X1_signAt, at_ok _ _ (show i < 60 by have := h.1; omega) (by omega), (h.2.2.2 i hi).1]
  rfl
theorem X_len (h : PadOK hx hm c n) {i : Nat} (hi : i < n) : f_X1_actLength (nI i) hx = some (nI (lenC (c i))) := by
  rw [f_X1_actLength, X_sign h hi]
  simp only [obs]
  exact c_len _ (h.2.2.2 i hi).2.2.2
theorem lenC_le (x : Nat) : lenC x ≤ 5 := by unfold lenC; split <;> (try split) <;> (try split) <;> (try split) <;> omega
theorem X_go (h : PadOK hx hm c n) {s i : Nat} (hs : s < n) (hi : i < n) : f_X1_canGoOn (nI s) (nI i) hx = some (b2 (nxt c s (c i))) := by
  obtain ⟨-, -, -, hci⟩ := h.2.2.2 i hi
  have hl := lenC_le (c s)
  rw [f_X1_canGoOn, X_len h hs]
  simp only [obs, opt_ite]
  rw [f_X1_placeAt, X_sign h hi]
  simp only [obs]
  rw [c_pl _ hci]
  simp only [obs]
  unfold nxt
  cases hp : plC (c i)
  · rw [if_pos b2_f]
    by_cases h2 : lenC (c s) = 2
    · rw [if_pos (show nI (lenC (c s)) = (2 : Int32) by rw [h2]; rfl), if_neg one_ne]
      by_cases h94 : c i = 94
      · rw [if_pos (show nI (c i) = (94 : Int32) by rw [h94]; rfl)]; simp [h2, h94, b2]
      · rw [if_neg (show ¬ nI (c i) = (94 : Int32) from fun q => h94 ((c_eq (d := 94) hci (by omega)).mp q))]; simp [h2, h94, b2]
    · rw [if_neg (show ¬ nI (lenC (c s)) = (2 : Int32) from fun q => h2 ((nI_eq (b := 2) (by omega) (by omega)).mp q)), if_pos rfl]
      simp [h2, b2]
  · rw [if_neg (by decide)]
    simp [b2]
theorem X_inner (h : PadOK hx hm c n) {s : Nat} (hs : s < n) (x2 : Int32) (L : Nat) (hL : L ≤ 5) (kx : Int32 → Option Int32) : ∀ (d k fuel : Nat), k + d = L → d < fuel → f_X1_faultPlace_l33 (nI s) x2 (nI L) hx kx fuel (nI k) = (match chkG c n (nxt c s) (s + k) d with | some r => some (nI r) | none => kx (nI L)) := by
  intro d
  induction d with
  | zero =>
    intro k fuel hk hf
    obtain ⟨f, rfl⟩ : ∃ f, fuel = f + 1 := ⟨fuel - 1, by omega⟩
    rw [f_X1_faultPlace_l33, show k = L by omega, if_pos (nI_le (Nat.le_refl L) (by omega)), chkG]
  | succ d ih =>
    intro k fuel hk hf
    obtain ⟨f, rfl⟩ : ∃ f, fuel = f + 1 := ⟨fuel - 1, by omega⟩
    have hn := h.1
    rw [f_X1_faultPlace_l33, if_neg (nI_ge (by omega) (by omega)), h.2.1, nI_add, chkG]
    by_cases hb : n ≤ s + k
    · rw [if_neg (nI_nlt hb (by omega)), if_pos hb]
    · rw [if_pos (nI_lt (by omega) (by omega)), if_neg hb, X_go h hs (by omega)]
      simp only [obs]
      cases hq : nxt c s (c (s + k))
      · rw [if_pos b2_f, if_neg (by decide)]
      · rw [if_neg (by decide), if_pos rfl, nI_succ']
        exact ih (k + 1) f (by omega) (by omega)
theorem X_outer (h : PadOK hx hm c n) : ∀ (d s a fuel : Nat), n - s ≤ d → s ≤ 65 → a ≤ s → d < fuel → f_X1_faultPlace_l4 hx (fun (w7 : Int32) (w8 : Int32) => some (-6 : Int32)) fuel (nI s) (nI a) = some (o2i (flt c n (d + 1) s)) := by
  intro d
  induction d with
  | zero =>
    intro s a fuel hd hs ha hf
    obtain ⟨f, rfl⟩ : ∃ f, fuel = f + 1 := ⟨fuel - 1, by omega⟩
    have hn := h.1
    rw [f_X1_faultPlace_l4, h.2.1, flt, if_pos (show n ≤ s by omega), if_pos (nI_le (show n ≤ s by omega) (by omega))]
    by_cases h60 : (60 : Int32) ≤ nI a
    · rw [if_pos h60]; rfl
    · rw [if_neg h60]; rfl
  | succ d ih =>
    intro s a fuel hd hs ha hf
    obtain ⟨f, rfl⟩ : ∃ f, fuel = f + 1 := ⟨fuel - 1, by omega⟩
    have hn := h.1
    rw [f_X1_faultPlace_l4, h.2.1, flt]
    by_cases hb : n ≤ s
    · rw [if_pos hb, if_pos (nI_le hb (by omega))]
      by_cases h60 : (60 : Int32) ≤ nI a
      · rw [if_pos h60]; rfl
      · rw [if_neg h60]; rfl
    · have hl := lenC_le (c s)
      rw [if_neg hb, if_neg (show ¬ (60 : Int32) ≤ nI a from nI_ge (b := 60) (by omega) (by omega)), if_neg (nI_ge (by omega) (by omega)), X_len h (by omega)]
      simp only [obs]
      unfold errA
      by_cases h0 : lenC (c s) = 0
      · rw [if_pos h0, if_pos (show nI (lenC (c s)) = 0 by rw [h0]; rfl)]; rfl
      · rw [if_neg h0, if_neg (nzn (show lenC (c s) < 2 ^ 31 by omega) h0)]
        have e := X_inner h (s := s) (by omega) (nI a) (lenC (c s)) hl (fun (w4 : Int32) => Option.bind (some (nI s + nI (lenC (c s)))) fun v5 => Option.bind (some (nI a + (1 : Int32))) fun v6 => f_X1_faultPlace_l4 hx (fun (w7 : Int32) (w8 : Int32) => some (-6 : Int32)) f v5 v6) (lenC (c s) - 1) 1 FU (by omega) (by rw [FU_eq]; omega)
        refine e.trans ?_
        cases chkG c n (nxt c s) (s + 1) (lenC (c s) - 1) with
        | some r => rfl
        | none =>
          simp only [obs]
          rw [nI_add, nI_succ']
          exact ih _ _ _ (by omega) (by omega) (by omega) (by omega)
theorem lenC_cases : ∀ x, x < 127 → (lenC x = 3 → x = 109) ∧ (lenC x = 5 → x = 112) ∧ (lenC x = 1 → x = 46) ∧ (lenC x ≠ 3 → x ≠ 109) ∧ (lenC x ≠ 5 → x ≠ 112) ∧ (lenC x ≠ 1 → x ≠ 46) ∧ (lenC x = 2 ∨ lenC x = 3 ∨ lenC x = 5 ∨ lenC x = 1 ∨ lenC x = 0) := by decide +kernel
theorem nxt_pl (s : Nat) (h2 : lenC (c s) ≠ 2) : nxt c s = plC := by
  funext x
  unfold nxt
  simp [h2]
def kM (h : Hp) : Int32 → Int32 → Option Int32 := fun (w15 : Int32) (w16 : Int32) => if w15 = 0 then (some (-6 : Int32)) else (some (h.1 0 5))
theorem M_in (h : PadOK hx hm c n) (g : Nat) : ∀ j k, k ≤ 65 → j ≤ 4 → f_X6_faultOf_l4 hm (kM hm) (g + j) (nI j) (nI k) = (match chkG c n plC k j with | some r => some (nI r) | none => f_X6_faultOf_l4 hm (kM hm) g (nI 0) (nI (k + j))) := by
  intro j
  induction j with
  | zero => intro k hk hj; rfl
  | succ j ih =>
    intro k hk hj
    have hn := h.1
    rw [show g + (j + 1) = (g + j) + 1 by omega, f_X6_faultOf_l4, h.2.2.1, chkG]
    by_cases hb : n ≤ k
    · rw [if_pos hb, if_pos (nI_le hb (by omega))]
      show (if nI (j + 1) = 0 then some (-6 : Int32) else some (hm.1 0 5)) = _
      rw [if_neg (nzn (show j + 1 < 2 ^ 31 by omega) (by omega)), h.2.2.1]
    · obtain ⟨-, e1, -, e2⟩ := h.2.2.2 k (by omega)
      rw [if_neg hb, if_neg (nI_ge (by omega) (by omega)), ald_ok _ _ (show k < 60 by omega) (by omega), e1]
      simp only [obs]
      rw [c_in97 _ e2]
      simp only [obs]
      rw [if_neg (show ¬ nI (j + 1) ≤ (0 : Int32) from nI_ge (b := j + 1) (a := 0) (by omega) (by omega))]
      cases hp : plC (c k)
      · rw [if_pos b2_f, if_neg (by decide)]
      · rw [if_neg (by decide), if_pos rfl, nI_succ']
        have e : nI (j + 1) + (-1 : Int32) = nI j := by
          rw [← nI_succ']
          rw [Int32.add_assoc, show (1 : Int32) + -1 = 0 by decide, Int32.add_zero]
        rw [e]
        refine (ih (k + 1) (by omega) (by omega)).trans ?_
        rw [show k + 1 + j = k + (j + 1) by omega]
theorem M_outer (h : PadOK hx hm c n) : ∀ (d s g : Nat), n - s ≤ d → s ≤ 65 → 5 * d + 1 ≤ g → f_X6_faultOf_l4 hm (kM hm) g (nI 0) (nI s) = some (o2i (flt c n (d + 1) s)) := by
  intro d
  induction d with
  | zero =>
    intro s g hd hs hg
    obtain ⟨f, rfl⟩ : ∃ f, g = f + 1 := ⟨g - 1, by omega⟩
    have hn := h.1
    rw [f_X6_faultOf_l4, h.2.2.1, flt, if_pos (show n ≤ s by omega), if_pos (nI_le (show n ≤ s by omega) (by omega))]
    rfl
  | succ d ih =>
    intro s g hd hs hg
    have hn := h.1
    by_cases hb : n ≤ s
    · obtain ⟨f, rfl⟩ : ∃ f, g = f + 1 := ⟨g - 1, by omega⟩
      rw [f_X6_faultOf_l4, h.2.2.1, flt, if_pos hb, if_pos (nI_le hb (by omega))]
      rfl
    · obtain ⟨-, e1, -, e2⟩ := h.2.2.2 s (by omega)
      obtain ⟨f, rfl⟩ : ∃ f, g = f + 5 := ⟨g - 5, by omega⟩
      obtain ⟨q3, q5, q1, n3, n5, n1, qc⟩ := lenC_cases _ e2
      rw [show f + 5 = (f + 4) + 1 by omega, f_X6_faultOf_l4, h.2.2.1, flt, if_neg hb, if_neg (nI_ge (by omega) (by omega)), ald_ok _ _ (show s < 60 by omega) (by omega), e1]
      simp only [obs]
      rw [c_in97 _ e2]
      simp only [obs]
      rw [if_pos (show nI 0 ≤ (0 : Int32) by decide), if_pos (show (0 : Int32) ≤ nI 0 by decide), c_in65 _ e2]
      simp only [obs]
      unfold errA
      by_cases h2 : lenC (c s) = 2
      · rw [if_neg (by simp [h2, b2]), if_neg (show ¬ lenC (c s) = 0 by omega), h2, nI_succ']
        show f_X6_faultOf_l4 hm (kM hm) ((f + 3) + 1) (-1 : Int32) (nI (s + 1)) = _
        rw [f_X6_faultOf_l4, h.2.2.1]
        show _ = some (o2i (match chkG c n (nxt c s) (s + 1) 1 with | some r => some r | none => flt c n (d + 1) (s + 2)))
        rw [chkG]
        by_cases hb1 : n ≤ s + 1
        · rw [if_pos hb1, if_pos (nI_le hb1 (by omega))]
          show (if (-1 : Int32) = 0 then some (-6 : Int32) else some (hm.1 0 5)) = _
          rw [if_neg (by decide), h.2.2.1]
          rfl
        · obtain ⟨-, e3, -, e4⟩ := h.2.2.2 (s + 1) (by omega)
          rw [if_neg hb1, if_neg (nI_ge (by omega) (by omega)), ald_ok _ _ (show s + 1 < 60 by omega) (by omega), e3]
          simp only [obs]
          rw [c_in97 _ e4]
          simp only [obs]
          rw [if_pos (show (-1 : Int32) ≤ 0 by decide), if_neg (show ¬ (0 : Int32) ≤ -1 by decide), nI_succ']
          have eih := ih (s + 2) (f + 3) (by omega) (by omega) (by omega)
          simp only [jn_eq]
          cases hp : plC (c (s + 1))
          · rw [if_pos b2_f]
            by_cases h94 : c (s + 1) = 94
            · rw [if_pos (show nI (c (s + 1)) = (94 : Int32) by rw [h94]; rfl), if_pos (show nxt c s (c (s + 1)) = true by simp [nxt, h2, h94])]
              exact eih
            · rw [if_neg (show ¬ nI (c (s + 1)) = (94 : Int32) from fun q => h94 ((c_eq (d := 94) e4 (by omega)).mp q)), if_neg (show ¬ nxt c s (c (s + 1)) = true by simp [nxt, hp, h94])]
              rfl
          · rw [if_neg (show ¬ b2 true = 0 by decide), if_pos (show nxt c s (c (s + 1)) = true by simp [nxt, hp])]
            exact eih
      · rw [if_pos (by simp [h2, b2]), nxt_pl s h2]
        simp only [jn_eq]
        by_cases h3 : lenC (c s) = 3
        · have e9 : nI (c s) = (109 : Int32) := by rw [q3 h3]; rfl
          rw [if_pos e9, if_neg (show ¬ lenC (c s) = 0 by omega), h3, if_pos e9]
          simp only [obs]
          rw [nI_succ']
          refine (M_in h (f + 2) 2 (s + 1) (by omega) (by omega)).trans ?_
          show _ = some (o2i (match chkG c n plC (s + 1) 2 with | some r => some r | none => flt c n (d + 1) (s + 3)))
          cases chkG c n plC (s + 1) 2 with
          | some r => rfl
          | none => exact ih (s + 3) (f + 2) (by omega) (by omega) (by omega)
        · have e9 : ¬ nI (c s) = (109 : Int32) := fun q => n3 h3 ((c_eq (d := 109) e2 (by omega)).mp q)
          rw [if_neg e9]
          by_cases h5 : lenC (c s) = 5
          · rw [if_pos (show nI (c s) = (112 : Int32) by rw [q5 h5]; rfl), if_neg (show ¬ lenC (c s) = 0 by omega), h5, if_neg e9]
            simp only [obs]
            rw [nI_succ']
            refine (M_in h f 4 (s + 1) (by omega) (by omega)).trans ?_
            show _ = some (o2i (match chkG c n plC (s + 1) 4 with | some r => some r | none => flt c n (d + 1) (s + 5)))
            cases chkG c n plC (s + 1) 4 with
            | some r => rfl
            | none => exact ih (s + 5) f (by omega) (by omega) (by omega)
          · rw [if_neg (show ¬ nI (c s) = (112 : Int32) from fun q => n5 h5 ((c_eq (d := 112) e2 (by omega)).mp q))]
            by_cases h1 : lenC (c s) = 1
            · rw [if_pos (show nI (c s) = (46 : Int32) by rw [q1 h1]; rfl), if_neg (show ¬ lenC (c s) = 0 by omega), h1, nI_succ']
              exact ih (s + 1) (f + 4) (by omega) (by omega) (by omega)
            · rw [if_neg (show ¬ nI (c s) = (46 : Int32) from fun q => n1 h1 ((c_eq (d := 46) e2 (by omega)).mp q)), if_pos (show lenC (c s) = 0 by omega)]
              rfl
theorem X_fault (h : PadOK hx hm c n) : f_X1_faultPlace hx = some (o2i (flt c n 61 0)) := by
  have hn := h.1
  rw [f_X1_faultPlace]
  exact X_outer h 60 0 0 FU (by omega) (by omega) (by omega) (by rw [FU_eq]; omega)
theorem M_fault (h : PadOK hx hm c n) : f_X6_faultOf hm = some (o2i (flt c n 61 0)) := by
  have hn := h.1
  rw [f_X6_faultOf]
  exact M_outer h 60 0 FU (by omega) (by omega) (by rw [FU_eq]; omega)
end PARSE
theorem r_fault : op_fault Rl := by
  intro hx hm hr
  obtain ⟨c, n, hp⟩ := hr.2.2.1.ok
  refine ⟨o2i (flt c n 61 0), ?_, ?_, hr⟩
  · rw [f_X5_fault, X_fault hp]; rfl
  · rw [f_X6_fault, M_fault hp]; rfl
