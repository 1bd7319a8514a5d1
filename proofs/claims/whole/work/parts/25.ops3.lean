/-! OPS: image, restore, told. -/
def cpO (h : Hp) (r1 r2 off n : Nat) : Hp := (fun a b => if a = r2 ∧ off ≤ b ∧ b < off + n then h.1 r1 (b - off) else h.1 a b, h.2)
theorem cpO_s (h : Hp) (r1 r2 off k : Nat) : ip (cpO h r1 r2 off k) r2 (off + k) (h.1 r1 k) = cpO h r1 r2 off (k + 1) := by
  refine Prod.ext ?_ rfl
  funext a b
  rw [ip_at]
  simp only [cpO]
  by_cases ha : a = r2
  · subst ha
    by_cases hb : b = off + k
    · subst hb
      rw [if_pos ⟨rfl, rfl⟩, if_pos ⟨rfl, by omega, by omega⟩, Nat.add_sub_cancel_left]
    · by_cases hk : off ≤ b ∧ b < off + k
      · rw [if_neg (by omega), if_pos ⟨rfl, hk⟩, if_pos ⟨rfl, by omega, by omega⟩]
      · rw [if_neg (by omega), if_neg (by omega), if_neg (by omega)]
  · simp [ha]
theorem cpO_0 (h : Hp) (r1 r2 off : Nat) : cpO h r1 r2 off 0 = h := by
  unfold cpO
  refine Prod.ext ?_ rfl
  funext a b
  show (if a = r2 ∧ off ≤ b ∧ b < off + 0 then _ else h.1 a b) = _
  rw [if_neg (by omega)]
theorem cpO_in (h : Hp) (r1 r2 off n : Nat) {k : Nat} (hk : k < n) : (cpO h r1 r2 off n).1 r2 (off + k) = h.1 r1 k := by
  show (if r2 = r2 ∧ off ≤ off + k ∧ off + k < off + n then h.1 r1 (off + k - off) else h.1 r2 (off + k)) = _
  rw [if_pos ⟨rfl, by omega, by omega⟩, Nat.add_sub_cancel_left]
theorem cpO_out (h : Hp) (r1 r2 off n : Nat) {b : Nat} (hb : b < off ∨ off + n ≤ b) : (cpO h r1 r2 off n).1 r2 b = h.1 r2 b := by
  show (if r2 = r2 ∧ off ≤ b ∧ b < off + n then _ else h.1 r2 b) = _
  rw [if_neg (by omega)]
theorem cpO_row (h : Hp) (r1 r2 off n : Nat) {r : Nat} (hr : r ≠ r2) : (cpO h r1 r2 off n).1 r = h.1 r := by
  unfold cpO
  funext b
  simp [hr]
def cpI (h : Hp) (r1 r2 off n : Nat) : Hp := (fun a b => if a = r2 ∧ b < n then h.1 r1 (off + b) else h.1 a b, h.2)
theorem cpI_s (h : Hp) (r1 r2 off k : Nat) : ip (cpI h r1 r2 off k) r2 k (h.1 r1 (off + k)) = cpI h r1 r2 off (k + 1) := by
  refine Prod.ext ?_ rfl
  funext a b
  rw [ip_at]
  simp only [cpI]
  by_cases ha : a = r2
  · subst ha
    by_cases hb : b = k
    · subst hb; simp
    · by_cases hk : b < k
      · rw [if_neg (by omega), if_pos ⟨rfl, hk⟩, if_pos ⟨rfl, by omega⟩]
      · rw [if_neg (by omega), if_neg (by omega), if_neg (by omega)]
  · simp [ha]
theorem cpI_0 (h : Hp) (r1 r2 off : Nat) : cpI h r1 r2 off 0 = h := by
  unfold cpI
  simp
theorem cpI_in (h : Hp) (r1 r2 off n : Nat) {k : Nat} (hk : k < n) : (cpI h r1 r2 off n).1 r2 k = h.1 r1 (off + k) := by
  unfold cpI
  simp [hk]
theorem cpI_row (h : Hp) (r1 r2 off n : Nat) {r : Nat} (hr : r ≠ r2) : (cpI h r1 r2 off n).1 r = h.1 r := by
  unfold cpI
  funext b
  simp [hr]
theorem M_im19 {R : Type} (x1 : Int32) (off : Nat) (ho : off ≤ 120) (h : Hp) (kx : Int32 → Hp → Option R) : f_X6_image_l19 x1 (nI off) kx FU 0 h = kx (nI 89) (cpO h 1 12 off 89) := by
  have key := loop_FU (fun f (q : Int32 × Hp) => f_X6_image_l19 x1 (nI off) kx f q.1 q.2) (fun k => (nI k, cpO h 1 12 off k)) 89 (kx (nI 89) (cpO h 1 12 off 89)) (by omega)
    (fun f k hk => by
      show f_X6_image_l19 x1 (nI off) kx (f + 1) (nI k) (cpO h 1 12 off k) = _
      rw [f_X6_image_l19, if_neg (g89 hk), ald_ok _ _ hk (by omega)]
      simp only [obs]
      rw [nI_add, ast_ok _ _ _ (by omega) (by omega)]
      simp only [obs]
      rw [cpO_row h 1 12 off k (by omega), cpO_s, nI_succ'])
    (fun f => by
      show f_X6_image_l19 x1 (nI off) kx (f + 1) (nI 89) (cpO h 1 12 off 89) = _
      rw [f_X6_image_l19, if_pos e89])
  dsimp only at key
  rw [cpO_0] at key
  exact key
theorem M_im47 {R : Type} (x1 : Int32) (off : Nat) (ho : off ≤ 120) (h : Hp) (kx : Int32 → Hp → Option R) : f_X6_image_l47 x1 (nI off) kx FU 0 h = kx (nI 24) (cpO h 3 12 (off + 89) 24) := by
  have key := loop_FU (fun f (q : Int32 × Hp) => f_X6_image_l47 x1 (nI off) kx f q.1 q.2) (fun k => (nI k, cpO h 3 12 (off + 89) k)) 24 (kx (nI 24) (cpO h 3 12 (off + 89) 24)) (by omega)
    (fun f k hk => by
      show f_X6_image_l47 x1 (nI off) kx (f + 1) (nI k) (cpO h 3 12 (off + 89) k) = _
      rw [f_X6_image_l47, if_neg (g24 hk), ald_ok _ _ hk (by omega)]
      simp only [obs]
      rw [show (89 : Int32) = nI 89 from rfl, nI_add, nI_add, ast_ok _ _ _ (by omega) (by omega)]
      simp only [obs]
      rw [cpO_row h 3 12 (off + 89) k (by omega), cpO_s, nI_succ'])
    (fun f => by
      show f_X6_image_l47 x1 (nI off) kx (f + 1) (nI 24) (cpO h 3 12 (off + 89) 24) = _
      rw [f_X6_image_l47, if_pos e24])
  dsimp only at key
  rw [cpO_0] at key
  exact key
theorem M_re31 {R : Type} (off : Nat) (ho : off ≤ 120) (h : Hp) (kx : Int32 → Hp → Option R) : f_X6_restore_l31 (nI off) kx FU 0 h = kx (nI 89) (cpI h 12 1 off 89) := by
  have key := loop_FU (fun f (q : Int32 × Hp) => f_X6_restore_l31 (nI off) kx f q.1 q.2) (fun k => (nI k, cpI h 12 1 off k)) 89 (kx (nI 89) (cpI h 12 1 off 89)) (by omega)
    (fun f k hk => by
      show f_X6_restore_l31 (nI off) kx (f + 1) (nI k) (cpI h 12 1 off k) = _
      rw [f_X6_restore_l31, if_neg (g89 hk), nI_add, ald_ok _ _ (by omega) (by omega)]
      simp only [obs]
      rw [ast_ok _ _ _ hk (by omega)]
      simp only [obs]
      rw [cpI_row h 12 1 off k (by omega), cpI_s, nI_succ'])
    (fun f => by
      show f_X6_restore_l31 (nI off) kx (f + 1) (nI 89) (cpI h 12 1 off 89) = _
      rw [f_X6_restore_l31, if_pos e89])
  dsimp only at key
  rw [cpI_0] at key
  exact key
theorem M_re59 {R : Type} (off : Nat) (ho : off ≤ 120) (h : Hp) (kx : Int32 → Hp → Option R) : f_X6_restore_l59 (nI off) kx FU 0 h = kx (nI 24) (cpI h 12 3 (off + 89) 24) := by
  have key := loop_FU (fun f (q : Int32 × Hp) => f_X6_restore_l59 (nI off) kx f q.1 q.2) (fun k => (nI k, cpI h 12 3 (off + 89) k)) 24 (kx (nI 24) (cpI h 12 3 (off + 89) 24)) (by omega)
    (fun f k hk => by
      show f_X6_restore_l59 (nI off) kx (f + 1) (nI k) (cpI h 12 3 (off + 89) k) = _
      rw [f_X6_restore_l59, if_neg (g24 hk), show (89 : Int32) = nI 89 from rfl, nI_add, nI_add, ald_ok _ _ (by omega) (by omega)]
      simp only [obs]
      rw [ast_ok _ _ _ hk (by omega)]
      simp only [obs]
      rw [cpI_row h 12 3 (off + 89) k (by omega), cpI_s, nI_succ'])
    (fun f => by
      show f_X6_restore_l59 (nI off) kx (f + 1) (nI 24) (cpI h 12 3 (off + 89) 24) = _
      rw [f_X6_restore_l59, if_pos e24])
  dsimp only at key
  rw [cpI_0] at key
  exact key
theorem SgR.n8 {K D V S : Nat → Int32} {c c' : Int32} (h : SgR K D V c S c') : ∃ n : Nat, n ≤ 8 ∧ c = nI n ∧ c' = nI n := by
  obtain ⟨h1, n, hn, e, -⟩ := h
  exact ⟨n, hn, e, by rw [← h1]; exact e⟩
theorem M_image (hm : Hp) {n : Nat} (hn : n ≤ 1) : ∃ m3 : Hp, f_X6_image (nI n) hm = some (1, m3) ∧ (∀ r, r ≠ 12 → r ≠ 13 → m3.1 r = hm.1 r) ∧ (∀ k, k < 89 → m3.1 12 (120 * n + k) = hm.1 1 k) ∧ (∀ k, k < 24 → m3.1 12 (120 * n + 89 + k) = hm.1 3 k) ∧ m3.1 12 (120 * n + 115) = hm.1 0 2 ∧ m3.1 12 (120 * n + 116) = hm.1 0 3 ∧ (∀ k, (k < 120 * n ∨ 120 * n + 117 ≤ k) → m3.1 12 k = hm.1 12 k) ∧ m3.1 13 n = 1 ∧ ∀ k, k ≠ n → m3.1 13 k = hm.1 13 k := by
  obtain ⟨m1, e1⟩ : ∃ m, m = cpO hm 1 12 (120 * n) 89 := ⟨_, rfl⟩
  obtain ⟨m2, e2⟩ : ∃ m, m = cpO m1 3 12 (120 * n + 89) 24 := ⟨_, rfl⟩
  obtain ⟨m3, e3⟩ : ∃ m, m = ip (ip (ip m2 12 (120 * n + 115) (hm.1 0 2)) 12 (120 * n + 116) (hm.1 0 3)) 13 n 1 := ⟨_, rfl⟩
  have r2 : ∀ r, r ≠ 12 → m2.1 r = hm.1 r := fun r hr => by rw [e2, cpO_row _ _ _ _ _ hr, e1, cpO_row _ _ _ _ _ hr]
  have r3 : ∀ r, r ≠ 12 → r ≠ 13 → m3.1 r = hm.1 r := fun r h1 h2 => by rw [e3, ip_row _ _ _ _ h2, ip_row _ _ _ _ h1, ip_row _ _ _ _ h1, r2 r h1]
  have c12 : ∀ k, m3.1 12 k = if k = 120 * n + 116 then hm.1 0 3 else if k = 120 * n + 115 then hm.1 0 2 else m2.1 12 k := by
    intro k
    rw [e3, ip_row _ 13 _ _ (by omega), ip_at, ip_at]
    by_cases q1 : k = 120 * n + 116
    · rw [if_pos ⟨rfl, q1⟩, if_pos q1]
    · rw [if_neg (fun q => q1 q.2), if_neg q1]
      by_cases q2 : k = 120 * n + 115
      · rw [if_pos ⟨rfl, q2⟩, if_pos q2]
      · rw [if_neg (fun q => q2 q.2), if_neg q2]
  refine ⟨m3, ?_, r3, fun k hk => ?_, fun k hk => ?_, ?_, ?_, fun k hk => ?_, ?_, fun k hk => ?_⟩
  · rw [f_X6_image, show f_X6_in (nI n) (0 : Int32) (1 : Int32) = some 1 from in_ok (a := 0) (b := 1) (by omega) hn (by omega)]
    simp only [obs, if_neg one_ne]
    rw [show (120 : Int32) * nI n = nI (120 * n) from pk_mul 120 n, M_im19 _ _ (by omega), ← e1, M_im47 _ _ (by omega), ← e2]
    rw [show (115 : Int32) = nI 115 from rfl, show (116 : Int32) = nI 116 from rfl, nI_add, nI_add, r2 0 (by omega), ast_ok _ _ _ (by omega) (by omega)]
    simp only [obs]
    rw [ip_row _ 12 _ _ (by omega), r2 0 (by omega), ast_ok _ _ _ (by omega) (by omega)]
    simp only [obs]
    rw [zast_ok _ _ _ (Or.inr rfl) (by omega) (by omega), ← e3]
    rfl
  · rw [c12, if_neg (by omega), if_neg (by omega), e2, cpO_out _ _ _ _ _ (by omega), e1, cpO_in _ _ _ _ _ hk]
  · rw [c12, if_neg (by omega), if_neg (by omega), e2, cpO_in _ _ _ _ _ hk, e1, cpO_row _ _ _ _ _ (by omega)]
  · rw [c12, if_neg (by omega), if_pos rfl]
  · rw [c12, if_pos rfl]
  · rw [c12, if_neg (by omega), if_neg (by omega), e2, cpO_out _ _ _ _ _ (by omega), e1, cpO_out _ _ _ _ _ (by omega)]
  · rw [e3, ip_s]
  · rw [e3, ip_n _ _ _ _ (Or.inr hk), ip_row _ 12 _ _ (by omega), ip_row _ 12 _ _ (by omega), r2 13 (by omega)]
/-- an image that was just kept -/
theorem ImR_new {hx hm hx' hm' : Hp} {t b n : Nat} (ht : hm.1 0 2 = nI t) (hS : ShR (hx.1 2) (hx.1 3) (hx.1 4) (hx.1 1 3) (hm.1 1) t) (hG : SiM hx hm) (hk : hx'.1 b 2 = 1) (hk2 : hm'.1 13 n = 1)
    (x1 : ∀ j, j < 81 → hx'.1 (b + 2) j = hx.1 2 j) (x2 : ∀ j, j < 6 → hx'.1 (b + 3) j = hx.1 3 j) (x3 : ∀ j, j < 6 → hx'.1 (b + 4) j = hx.1 4 j) (x4 : hx'.1 (b + 1) 3 = hx.1 1 3)
    (y1 : ∀ j, j < 8 → hx'.1 (b + 6) j = hx.1 6 j) (y2 : ∀ j, j < 8 → hx'.1 (b + 7) j = hx.1 7 j) (y3 : ∀ j, j < 8 → hx'.1 (b + 8) j = hx.1 8 j) (y4 : hx'.1 (b + 5) 3 = hx.1 5 3)
    (z1 : ∀ k, k < 89 → hm'.1 12 (120 * n + k) = hm.1 1 k) (z2 : ∀ k, k < 24 → hm'.1 12 (120 * n + 89 + k) = hm.1 3 k) (z3 : hm'.1 12 (120 * n + 115) = hm.1 0 2) (z4 : hm'.1 12 (120 * n + 116) = hm.1 0 3) : ImR b n hx' hm' :=
  ⟨by rw [hk, hk2], Or.inr ⟨hk, ⟨t, by rw [z3]; exact ht, hS.congr x1 x2 x3 x4 z1⟩, SgR.congr hG y1 y2 y3 y4 z2 z4⟩⟩
/-- an image that stays -/
theorem ImR_old {hx hm hx' hm' : Hp} {b n : Nat} (h : ImR b n hx hm) (hX : ∀ r, b ≤ r → r ≤ b + 8 → hx'.1 r = hx.1 r) (hM : ∀ k, 120 * n ≤ k → k < 120 * n + 117 → hm'.1 12 k = hm.1 12 k) (hM2 : hm'.1 13 n = hm.1 13 n) : ImR b n hx' hm' := by
  unfold ImR at h ⊢
  rw [hX b (by omega) (by omega), hX (b + 1) (by omega) (by omega), hX (b + 2) (by omega) (by omega), hX (b + 3) (by omega) (by omega), hX (b + 4) (by omega) (by omega), hX (b + 5) (by omega) (by omega), hX (b + 6) (by omega) (by omega), hX (b + 7) (by omega) (by omega), hX (b + 8) (by omega) (by omega), hM2]
  refine ⟨h.1, ?_⟩
  rcases h.2 with q | ⟨q, ⟨t', h5, h6⟩, h7⟩
  · exact Or.inl q
  · exact Or.inr ⟨q, ⟨t', by rw [hM _ (by omega) (by omega)]; exact h5, h6.congr (fun _ _ => rfl) (fun _ _ => rfl) (fun _ _ => rfl) rfl (fun k hk => hM _ (by omega) (by omega))⟩, h7.congr (fun _ _ => rfl) (fun _ _ => rfl) (fun _ _ => rfl) rfl (fun k hk => hM _ (by omega) (by omega)) (hM _ (by omega) (by omega))⟩
/-- image n kept: what the class does, what the reference does -/
theorem image_kept {hx hm : Hp} (hr : Rl hx hm) (b n : Nat) (hbn : (b = 16 ∧ n = 0) ∨ (b = 25 ∧ n = 1)) : ∃ hx' hm', Rl hx' hm' ∧ (Option.bind (f_X2_copyFrom (b + 1) 1 hx) fun h5 => Option.bind (f_X3_copyFrom (b + 5) 5 h5) fun h6 => Option.bind (some (ip h6 b 2 (1 : Int32))) fun h7 => some ((1 : Int32), h7)) = some (1, hx') ∧ f_X6_image (nI n) hm = some (1, hm') := by
  obtain ⟨⟨t, ht, hS⟩, hG, hP, i1, i2⟩ := id hr
  obtain ⟨h1, a1, a2, a3, a4, a5, a6, a7⟩ := X2_copy (b + 1) 1 hx (by omega)
  obtain ⟨h2, b1, b2, b3, b4, b5, b6⟩ := X3_copy (b + 5) 5 h1 (by omega)
  obtain ⟨m3, c1, c2, c3, c4, c5, c6, c7, c8, c9⟩ := M_image hm (n := n) (by omega)
  have fx : ∀ r, (r < b ∨ b + 8 < r) → (ip h2 b 2 1).1 r = hx.1 r := fun r hr => by rw [ip_row _ _ _ _ (by omega), b6 r (by omega), a7 r (by omega)]
  have hnew : ImR b n (ip h2 b 2 1) m3 := by
    refine ImR_new ht hS hG (ip_s _ _ _ _) c8 (fun k hk => ?_) (fun k hk => ?_) (fun k hk => ?_) ?_ (fun k hk => ?_) (fun k hk => ?_) (fun k hk => ?_) ?_ c3 c4 c5 c6
    · rw [ip_row _ _ _ _ (by omega), b6 _ (by omega)]; exact a2 k hk
    · rw [ip_row _ _ _ _ (by omega), b6 _ (by omega)]; exact a3 k hk
    · rw [ip_row _ _ _ _ (by omega), b6 _ (by omega)]; exact a4 k hk
    · rw [ip_row _ _ _ _ (by omega), b6 _ (by omega)]; exact a5
    · rw [ip_row _ _ _ _ (by omega)]; exact (b2 k hk).trans (by rw [a7 _ (by omega)])
    · rw [ip_row _ _ _ _ (by omega)]; exact (b3 k hk).trans (by rw [a7 _ (by omega)])
    · rw [ip_row _ _ _ _ (by omega)]; exact (b4 k hk).trans (by rw [a7 _ (by omega)])
    · rw [ip_row _ _ _ _ (by omega)]; exact b5.trans (by rw [a7 _ (by omega)])
  refine ⟨ip h2 b 2 1, m3, ⟨⟨t, ?_, ?_⟩, ?_, ?_, ?_, ?_⟩, ?_, c1⟩
  · rw [c2 0 (by omega) (by omega)]; exact ht
  · rw [fx 2 (by omega), fx 3 (by omega), fx 4 (by omega), fx 1 (by omega), c2 1 (by omega) (by omega)]; exact hS
  · unfold SiM
    rw [fx 6 (by omega), fx 7 (by omega), fx 8 (by omega), fx 5 (by omega), c2 3 (by omega) (by omega), c2 0 (by omega) (by omega)]; exact hG
  · unfold PaR
    rw [fx 9 (by omega), fx 10 (by omega), c2 4 (by omega) (by omega), c2 0 (by omega) (by omega)]; exact hP
  · rcases hbn with ⟨rfl, rfl⟩ | ⟨rfl, rfl⟩
    · exact hnew
    · exact ImR_old i1 (fun r h1 h2 => fx r (by omega)) (fun k h1 h2 => c7 k (by omega)) (c9 0 (by omega))
  · rcases hbn with ⟨rfl, rfl⟩ | ⟨rfl, rfl⟩
    · exact ImR_old i2 (fun r h1 h2 => fx r (by omega)) (fun k h1 h2 => c7 k (by omega)) (c9 1 (by omega))
    · exact hnew
  · rw [a1]
    simp only [obs]
    rw [b1]
    rfl
theorem r_image : op_image Rl := by
  intro hx hm x1 hr
  rcases in_cases x1 0 1 (by omega) (by omega) with ⟨e, -⟩ | ⟨n, -, hn, rfl, e⟩
  · exact ⟨-2, hx, hm, by rw [f_X5_image, wi_eq, show f_X6_in x1 (0 : Int32) (1 : Int32) = some 0 from e]; rfl, by rw [f_X6_image, show f_X6_in x1 (0 : Int32) (1 : Int32) = some 0 from e]; rfl, hr⟩
  · have hn2 : n = 0 ∨ n = 1 := by omega
    rcases hn2 with rfl | rfl
    · obtain ⟨hx', hm', h1, h2, h3⟩ := image_kept hr 16 0 (Or.inl ⟨rfl, rfl⟩)
      refine ⟨1, hx', hm', ?_, h3, h1⟩
      rw [f_X5_image, wi_eq, show f_X6_in (nI 0) (0 : Int32) (1 : Int32) = some 1 from e]
      simp only [obs, if_neg one_ne]
      rw [if_pos (show nI 0 = 0 from rfl)]
      exact h2
    · obtain ⟨hx', hm', h1, h2, h3⟩ := image_kept hr 25 1 (Or.inr ⟨rfl, rfl⟩)
      refine ⟨1, hx', hm', ?_, h3, h1⟩
      rw [f_X5_image, wi_eq, show f_X6_in (nI 1) (0 : Int32) (1 : Int32) = some 1 from e]
      simp only [obs, if_neg one_ne]
      rw [if_neg (show ¬ nI 1 = 0 by decide)]
      exact h2
