/-! THE RELATION between the class's heap and the reference's, and the ops that set. -/
theorem ip_row (h : Hp) (r j : Nat) (v : Int32) {r' : Nat} (hn : r' ≠ r) : (ip h r j v).1 r' = h.1 r' := by
  unfold ip
  simp [hn]
theorem ip_self (h : Hp) (r j : Nat) (v : Int32) : (ip h r j v).1 r = upd (h.1 r) j v := by
  unfold ip
  simp
def cpyH (h : Hp) (r1 r2 n : Nat) : Hp := (fun a b => if a = r2 ∧ b < n then h.1 r1 b else h.1 a b, h.2)
theorem cpyH_s (h : Hp) (r1 r2 k : Nat) : ip (cpyH h r1 r2 k) r2 k (h.1 r1 k) = cpyH h r1 r2 (k + 1) := by
  refine Prod.ext ?_ rfl
  funext a b
  rw [ip_at]
  simp only [cpyH]
  by_cases ha : a = r2
  · subst ha
    by_cases hb : b = k
    · subst hb; simp
    · by_cases hk : b < k
      · rw [if_neg (by omega), if_pos ⟨rfl, hk⟩, if_pos ⟨rfl, by omega⟩]
      · rw [if_neg (by omega), if_neg (by omega), if_neg (by omega)]
  · simp [ha]
theorem cpyH_0 (h : Hp) (r1 r2 : Nat) : cpyH h r1 r2 0 = h := by
  unfold cpyH
  simp
theorem cpyH_in (h : Hp) (r1 r2 n : Nat) {k : Nat} (hk : k < n) : (cpyH h r1 r2 n).1 r2 k = h.1 r1 k := by
  unfold cpyH
  simp [hk]
theorem cpyH_row (h : Hp) (r1 r2 n : Nat) {r : Nat} (hr : r ≠ r2) : (cpyH h r1 r2 n).1 r = h.1 r := by
  unfold cpyH
  funext b
  simp [hr]
theorem copy_ok (h : Hp) (r1 r2 n : Nat) (hr : r1 ≠ r2) (hn : n < 100000) : f_X5_copy r1 n r2 n h = some (cpyH h r1 r2 n) := by
  rw [f_X5_copy]
  have key := loop_FU (fun f (q : Int32 × Hp) => f_X5_copy_l2 r1 n r2 n (fun (_ : Int32) (h5 : Hp) => some h5) f q.1 q.2) (fun k => (nI k, cpyH h r1 r2 k)) n (some (cpyH h r1 r2 n)) hn
    (fun f k hk => by
      show f_X5_copy_l2 r1 n r2 n _ (f + 1) (nI k) (cpyH h r1 r2 k) = _
      rw [f_X5_copy_l2, if_neg (show ¬ Int32.ofNat n ≤ nI k from nI_ge hk (by omega)), if_neg (show ¬ Int32.ofNat n ≤ nI k from nI_ge hk (by omega)), ald_ok _ _ hk (by omega)]
      simp only [obs]
      rw [ast_ok _ _ _ hk (by omega)]
      simp only [obs]
      rw [cpyH_row h r1 r2 k hr, cpyH_s, nI_succ'])
    (fun f => by
      show f_X5_copy_l2 r1 n r2 n _ (f + 1) (nI n) (cpyH h r1 r2 n) = _
      rw [f_X5_copy_l2, if_pos (show Int32.ofNat n ≤ nI n from nI_le (Nat.le_refl n) (by omega))])
  dsimp only at key
  rw [cpyH_0] at key
  exact key
theorem X2_copy (a b : Nat) (h : Hp) (hab : a + 3 < b ∨ b + 3 < a) : ∃ h', f_X2_copyFrom a b h = some h' ∧ (∀ j, j < 81 → h'.1 (a + 1) j = h.1 (b + 1) j) ∧ (∀ j, j < 6 → h'.1 (a + 2) j = h.1 (b + 2) j) ∧ (∀ j, j < 6 → h'.1 (a + 3) j = h.1 (b + 3) j) ∧ h'.1 a 3 = h.1 b 3 ∧ h'.1 a 4 = -6 ∧ ∀ r, (r < a ∨ a + 3 < r) → h'.1 r = h.1 r := by
  rw [f_X2_copyFrom, copy_ok h (b + 1) (a + 1) 81 (by omega) (by omega)]
  simp only [obs]
  rw [copy_ok _ (b + 2) (a + 2) 6 (by omega) (by omega)]
  simp only [obs]
  rw [copy_ok _ (b + 3) (a + 3) 6 (by omega) (by omega)]
  simp only [obs]
  refine ⟨_, rfl, fun j hj => ?_, fun j hj => ?_, fun j hj => ?_, ?_, ?_, fun r hr => ?_⟩
  · rw [ip_row _ _ _ _ (by omega), ip_row _ _ _ _ (by omega), cpyH_row _ _ _ _ (by omega), cpyH_row _ _ _ _ (by omega), cpyH_in _ _ _ _ hj]
  · rw [ip_row _ _ _ _ (by omega), ip_row _ _ _ _ (by omega), cpyH_row _ _ _ _ (by omega), cpyH_in _ _ _ _ hj, cpyH_row _ _ _ _ (by omega)]
  · rw [ip_row _ _ _ _ (by omega), ip_row _ _ _ _ (by omega), cpyH_in _ _ _ _ hj, cpyH_row _ _ _ _ (by omega), cpyH_row _ _ _ _ (by omega)]
  · rw [ip_n _ _ _ _ (Or.inr (by omega)), ip_s, cpyH_row _ _ _ _ (by omega), cpyH_row _ _ _ _ (by omega), cpyH_row _ _ _ _ (by omega)]
  · rw [ip_s]
  · rw [ip_row _ _ _ _ (by omega), ip_row _ _ _ _ (by omega), cpyH_row _ _ _ _ (by omega), cpyH_row _ _ _ _ (by omega), cpyH_row _ _ _ _ (by omega)]
theorem X3_copy (a b : Nat) (h : Hp) (hab : a + 3 < b ∨ b + 3 < a) : ∃ h', f_X3_copyFrom a b h = some h' ∧ (∀ j, j < 8 → h'.1 (a + 1) j = h.1 (b + 1) j) ∧ (∀ j, j < 8 → h'.1 (a + 2) j = h.1 (b + 2) j) ∧ (∀ j, j < 8 → h'.1 (a + 3) j = h.1 (b + 3) j) ∧ h'.1 a 3 = h.1 b 3 ∧ ∀ r, (r < a ∨ a + 3 < r) → h'.1 r = h.1 r := by
  rw [f_X3_copyFrom, copy_ok h (b + 1) (a + 1) 8 (by omega) (by omega)]
  simp only [obs]
  rw [copy_ok _ (b + 2) (a + 2) 8 (by omega) (by omega)]
  simp only [obs]
  rw [copy_ok _ (b + 3) (a + 3) 8 (by omega) (by omega)]
  simp only [obs]
  refine ⟨_, rfl, fun j hj => ?_, fun j hj => ?_, fun j hj => ?_, ?_, fun r hr => ?_⟩
  · rw [ip_row _ _ _ _ (by omega), cpyH_row _ _ _ _ (by omega), cpyH_row _ _ _ _ (by omega), cpyH_in _ _ _ _ hj]
  · rw [ip_row _ _ _ _ (by omega), cpyH_row _ _ _ _ (by omega), cpyH_in _ _ _ _ hj, cpyH_row _ _ _ _ (by omega)]
  · rw [ip_row _ _ _ _ (by omega), cpyH_in _ _ _ _ hj, cpyH_row _ _ _ _ (by omega), cpyH_row _ _ _ _ (by omega)]
  · rw [ip_s, cpyH_row _ _ _ _ (by omega), cpyH_row _ _ _ _ (by omega), cpyH_row _ _ _ _ (by omega)]
  · rw [ip_row _ _ _ _ (by omega), cpyH_row _ _ _ _ (by omega), cpyH_row _ _ _ _ (by omega), cpyH_row _ _ _ _ (by omega)]
theorem M_asNow (h : Hp) : ∃ h', f_X6_asNow h = some h' ∧ (∀ j, j < 89 → h'.1 2 j = h.1 1 j) ∧ h'.1 0 7 = -6 ∧ h'.1 0 8 = -6 ∧ (∀ r, r ≠ 0 → r ≠ 2 → h'.1 r = h.1 r) ∧ (∀ j, j ≠ 7 → j ≠ 8 → h'.1 0 j = h.1 0 j) := by
  have key := loop_FU (fun f (q : Int32 × Hp) => f_X6_asNow_l2 (fun (w4 : Int32) (h5 : Hp) => Option.bind (some (ip h5 0 7 (-6 : Int32))) fun h6 => Option.bind (some (ip h6 0 8 (-6 : Int32))) fun h7 => some h7) f q.1 q.2) (fun k => (nI k, cpyH h 1 2 k)) 89 (some (ip (ip (cpyH h 1 2 89) 0 7 (-6)) 0 8 (-6))) (by omega)
    (fun f k hk => by
      show f_X6_asNow_l2 _ (f + 1) (nI k) (cpyH h 1 2 k) = _
      rw [f_X6_asNow_l2, if_neg (g89 hk), ald_ok _ _ hk (by omega)]
      simp only [obs]
      rw [ast_ok _ _ _ hk (by omega)]
      simp only [obs]
      rw [cpyH_row h 1 2 k (by omega), cpyH_s, nI_succ'])
    (fun f => by
      show f_X6_asNow_l2 _ (f + 1) (nI 89) (cpyH h 1 2 89) = _
      rw [f_X6_asNow_l2, if_pos e89]
      rfl)
  dsimp only at key
  rw [cpyH_0] at key
  refine ⟨_, (by rw [f_X6_asNow]; exact key), fun j hj => ?_, ?_, ?_, fun r h0 h2 => ?_, fun j h7 h8 => ?_⟩
  · rw [ip_row _ _ _ _ (by omega), ip_row _ _ _ _ (by omega), cpyH_in _ _ _ _ hj]
  · rw [ip_n _ _ _ _ (Or.inr (by omega)), ip_s]
  · rw [ip_s]
  · rw [ip_row _ _ _ _ h0, ip_row _ _ _ _ h0, cpyH_row _ _ _ _ h2]
  · rw [ip_n _ _ _ _ (Or.inr h8), ip_n _ _ _ _ (Or.inr h7), cpyH_row _ _ _ _ (by omega)]
/-- one road set, both ways round -/
def setR (R : Nat → Int32) (i j : Nat) (v : Int32) : Nat → Int32 := fun k => if k = 9 * i + j ∨ k = 9 * j + i then v else R k
def pr (r i j : Nat) (v : Int32) (h : Hp) : Hp := ip (ip h r (9 * i + j) v) r (9 * j + i) v
theorem pr_self (r i j : Nat) (v : Int32) (h : Hp) : (pr r i j v h).1 r = setR (h.1 r) i j v := by
  funext k
  unfold pr setR
  rw [ip_at, ip_at]
  by_cases h1 : k = 9 * j + i
  · simp [h1]
  · by_cases h2 : k = 9 * i + j
    · simp [h2]
    · simp [h1, h2]
theorem pr_row (r i j : Nat) (v : Int32) (h : Hp) {r' : Nat} (hn : r' ≠ r) : (pr r i j v h).1 r' = h.1 r' := by
  unfold pr
  rw [ip_row _ _ _ _ hn, ip_row _ _ _ _ hn]
theorem okR_set {R : Nat → Int32} (h : okR R) {i j : Nat} (hi : i < 9) (hj : j < 9) (hn : i ≠ j) {v : Int32} (hv : okv v) : okR (setR R i j v) := by
  refine ⟨fun a b ha hb => ?_, fun a ha => ?_, fun k hk => ?_⟩
  · unfold setR
    by_cases e : 9 * a + b = 9 * i + j ∨ 9 * a + b = 9 * j + i
    · rw [if_pos e, if_pos (by omega)]
    · rw [if_neg e, if_neg (by omega)]
      exact h.1 a b ha hb
  · unfold setR
    rw [if_neg (by omega)]
    exact h.2.1 a ha
  · unfold setR
    by_cases e : k = 9 * i + j ∨ k = 9 * j + i
    · rw [if_pos e]; exact hv
    · rw [if_neg e]; exact h.2.2 k hk
theorem X_putRoad (a : Nat) (h : Hp) {i j : Nat} (hi : i < 9) (hj : j < 9) (hn : i ≠ j) (v : Int32) : f_X2_putRoad a (nI i) (nI j) v h = some (pr (a + 1) i j v h) := by
  rw [f_X2_putRoad, two_ok hi hj hn]
  simp only [obs, if_neg one_ne]
  rw [ix9, put_ok _ _ _ (by omega) (by omega)]
  simp only [obs]
  rw [ix9, put_ok _ _ _ (by omega) (by omega)]
  rfl
theorem M_lay (h : Hp) {i j : Nat} (hi : i < 9) (hj : j < 9) (v : Int32) : f_X6_lay (nI i) (nI j) v h = some (pr 2 i j v h) := by
  rw [f_X6_lay, ix9', ast_ok _ _ _ (by omega) (by omega)]
  simp only [obs]
  rw [ix9', ast_ok _ _ _ (by omega) (by omega)]
  rfl
theorem ShR.congr {R P I B R' P' I' B' : Nat → Int32} {dx dx' : Int32} {t : Nat} (h : ShR R P I dx B t) (hR : ∀ k, k < 81 → R' k = R k) (hP : ∀ k, k < 6 → P' k = P k) (hI : ∀ k, k < 6 → I' k = I k) (hd : dx' = dx) (hB : ∀ k, k < 89 → B' k = B k) : ShR R' P' I' dx' B' t := by
  obtain ⟨h1, h2, ⟨i, d, e1, e2, e3, e4, e5, e6⟩, h4, h5⟩ := h
  refine ⟨fun k hk => by rw [hR k hk, hB k (by omega)]; exact h1 k hk, ⟨fun a b ha hb => ?_, fun a ha => ?_, fun k hk => ?_⟩, ⟨i, d, by rw [hB 87 (by omega)]; exact e1, e2, by rw [hB 88 (by omega)]; exact e3, by rw [hd]; exact e4, e5, fun k hk => by rw [hI k hk]; exact e6 k hk⟩, h4, fun k hk => ?_⟩
  · rw [hR _ (by omega), hR _ (by omega)]; exact h2.1 a b ha hb
  · rw [hR _ (by omega)]; exact h2.2.1 a ha
  · rw [hR k hk]; exact h2.2.2 k hk
  · rw [hB (81 + k) (by omega), hP k hk]; exact h5 k hk
def SgR (K D V : Nat → Int32) (c : Int32) (S : Nat → Int32) (c' : Int32) : Prop := c = c' ∧ ∃ n : Nat, n ≤ 8 ∧ c = nI n ∧ ∀ i, i < n → K i = S (3 * i) ∧ D i = S (3 * i + 1) ∧ V i = S (3 * i + 2)
theorem SgR.congr {K D V S K' D' V' S' : Nat → Int32} {c c' d d' : Int32} (h : SgR K D V c S c') (hK : ∀ i, i < 8 → K' i = K i) (hD : ∀ i, i < 8 → D' i = D i) (hV : ∀ i, i < 8 → V' i = V i) (hc : d = c) (hS : ∀ i, i < 24 → S' i = S i) (hc' : d' = c') : SgR K' D' V' d S' d' := by
  obtain ⟨h1, n, hn, e, h2⟩ := h
  refine ⟨by rw [hc, hc']; exact h1, n, hn, by rw [hc]; exact e, fun i hi => ?_⟩
  rw [hK i (by omega), hD i (by omega), hV i (by omega), hS _ (by omega), hS _ (by omega), hS _ (by omega)]
  exact h2 i hi
def ShM (hx hm : Hp) : Prop := ∃ t : Nat, hm.1 0 2 = nI t ∧ ShR (hx.1 2) (hx.1 3) (hx.1 4) (hx.1 1 3) (hm.1 1) t
def SiM (hx hm : Hp) : Prop := SgR (hx.1 6) (hx.1 7) (hx.1 8) (hx.1 5 3) (hm.1 3) (hm.1 0 3)
def PaR (hx hm : Hp) : Prop := ∃ n : Nat, n ≤ 60 ∧ hx.1 9 1 = nI n ∧ hm.1 0 5 = nI n ∧ ∀ i, i < n → hx.1 10 i = hm.1 4 i ∧ ∃ c : Nat, 33 ≤ c ∧ c ≤ 126 ∧ hx.1 10 i = nI c
def ImR (b n : Nat) (hx hm : Hp) : Prop := hx.1 b 2 = hm.1 13 n ∧ (hx.1 b 2 = 0 ∨ (hx.1 b 2 = 1 ∧ (∃ t : Nat, hm.1 12 (120 * n + 115) = nI t ∧ ShR (hx.1 (b + 2)) (hx.1 (b + 3)) (hx.1 (b + 4)) (hx.1 (b + 1) 3) (fun k => hm.1 12 (120 * n + k)) t) ∧ SgR (hx.1 (b + 6)) (hx.1 (b + 7)) (hx.1 (b + 8)) (hx.1 (b + 5) 3) (fun k => hm.1 12 (120 * n + 89 + k)) (hm.1 12 (120 * n + 116))))
def Rl (hx hm : Hp) : Prop := ShM hx hm ∧ SiM hx hm ∧ PaR hx hm ∧ ImR 16 0 hx hm ∧ ImR 25 1 hx hm
def eqX (h h' : Hp) : Prop := ∀ r, (r ≤ 10 ∨ (16 ≤ r ∧ r ≤ 33)) → h'.1 r = h.1 r
def eqM (h h' : Hp) : Prop := (∀ r, (r = 1 ∨ r = 3 ∨ r = 4 ∨ r = 12 ∨ r = 13) → h'.1 r = h.1 r) ∧ ∀ j, (j = 2 ∨ j = 3 ∨ j = 5) → h'.1 0 j = h.1 0 j
theorem eqX.rf (h : Hp) : eqX h h := fun _ _ => rfl
theorem eqM.rf (h : Hp) : eqM h h := ⟨fun _ _ => rfl, fun _ _ => rfl⟩
theorem Rl.frame {hx hm hx' hm' : Hp} (h : Rl hx hm) (hX : eqX hx hx') (hM : eqM hm hm') : Rl hx' hm' := by
  obtain ⟨⟨t, ht, hS⟩, hG, ⟨n, p1, p2, p3, p4⟩, i1, i2⟩ := h
  refine ⟨⟨t, ?_, ?_⟩, ?_, ⟨n, p1, ?_, ?_, ?_⟩, ?_, ?_⟩
  · rw [hM.2 2 (by omega)]; exact ht
  · rw [hX 2 (by omega), hX 3 (by omega), hX 4 (by omega), hX 1 (by omega), hM.1 1 (by omega)]; exact hS
  · unfold SiM
    rw [hX 6 (by omega), hX 7 (by omega), hX 8 (by omega), hX 5 (by omega), hM.1 3 (by omega), hM.2 3 (by omega)]; exact hG
  · rw [hX 9 (by omega)]; exact p2
  · rw [hM.2 5 (by omega)]; exact p3
  · rw [hX 10 (by omega), hM.1 4 (by omega)]; exact p4
  · unfold ImR
    rw [hX 16 (by omega), hX (16 + 1) (by omega), hX (16 + 2) (by omega), hX (16 + 3) (by omega), hX (16 + 4) (by omega), hX (16 + 5) (by omega), hX (16 + 6) (by omega), hX (16 + 7) (by omega), hX (16 + 8) (by omega), hM.1 12 (by omega), hM.1 13 (by omega)]
    exact i1
  · unfold ImR
    rw [hX 25 (by omega), hX (25 + 1) (by omega), hX (25 + 2) (by omega), hX (25 + 3) (by omega), hX (25 + 4) (by omega), hX (25 + 5) (by omega), hX (25 + 6) (by omega), hX (25 + 7) (by omega), hX (25 + 8) (by omega), hM.1 12 (by omega), hM.1 13 (by omega)]
    exact i2
theorem eqM_asNow {h h' : Hp} (h1 : ∀ r, r ≠ 0 → r ≠ 2 → h'.1 r = h.1 r) (h2 : ∀ j, j ≠ 7 → j ≠ 8 → h'.1 0 j = h.1 0 j) : eqM h h' := ⟨fun r hr => h1 r (by omega) (by omega), fun j hj => h2 j (by omega) (by omega)⟩
theorem r_wipe : op_wipe Rl := by
  intro hx hm hr
  obtain ⟨hS, hG, ⟨n, p1, p2, p3, p4⟩, i1, i2⟩ := id hr
  refine ⟨nI n, ip hx 9 1 0, ip hm 0 5 0, ?_, ?_, ?_⟩
  · rw [f_X5_wipe, p2]
    rfl
  · rw [f_X6_wipe, p3]
    rfl
  · obtain ⟨t, ht, hS⟩ := hS
    refine ⟨⟨t, ?_, ?_⟩, ?_, ⟨0, by omega, ?_, ?_, fun i hi => absurd hi (by omega)⟩, ?_, ?_⟩
    · rw [ip_n _ _ _ _ (Or.inr (by omega))]; exact ht
    · rw [ip_row _ _ _ _ (by omega), ip_row _ _ _ _ (by omega), ip_row _ _ _ _ (by omega), ip_row _ _ _ _ (by omega), ip_row _ _ _ _ (by omega)]; exact hS
    · unfold SiM
      rw [ip_row _ _ _ _ (by omega), ip_row _ _ _ _ (by omega), ip_row _ _ _ _ (by omega), ip_row _ _ _ _ (by omega), ip_row _ _ _ _ (by omega), ip_n _ _ _ _ (Or.inr (by omega))]; exact hG
    · rw [ip_s]; rfl
    · rw [ip_s]; rfl
    · unfold ImR
      repeat rw [ip_row _ _ _ _ (by omega)]
      exact i1
    · unfold ImR
      repeat rw [ip_row _ _ _ _ (by omega)]
      exact i2
