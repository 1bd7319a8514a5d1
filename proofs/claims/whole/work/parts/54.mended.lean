/-! MENDED in the reference, and both. -/
def DDp (h : Hp) (r k : Nat) : Hp := (fun a b => if a = 6 ∧ b < k then nI (dg r b) else h.1 a b, h.2)
theorem DDp_at (h : Hp) (r : Nat) {k b : Nat} (hb : b < k) : (DDp h r k).1 6 b = nI (dg r b) := by
  unfold DDp
  simp [hb]
theorem DDp_row (h : Hp) (r k : Nat) {a : Nat} (ha : a ≠ 6) : (DDp h r k).1 a = h.1 a := by
  unfold DDp
  funext b
  simp [ha]
theorem DDp_s (h : Hp) (r k : Nat) : ip (DDp h r k) 6 k (nI (dg r k)) = DDp h r (k + 1) := by
  refine Prod.ext ?_ rfl
  funext a b
  rw [ip_at]
  show (if a = 6 ∧ b = k then nI (dg r k) else if a = 6 ∧ b < k then nI (dg r b) else h.1 a b) = (if a = 6 ∧ b < k + 1 then nI (dg r b) else h.1 a b)
  by_cases h1 : a = 6 ∧ b = k
  · rw [if_pos h1, if_pos (by omega), h1.2]
  · rw [if_neg h1]
    by_cases h2 : a = 6 ∧ b < k
    · rw [if_pos h2, if_pos (by omega)]
    · rw [if_neg h2, if_neg (by omega)]
theorem M_l36_s {T : Type} {r n k : Nat} (hr : r < 2 ^ 31) (hn : n ≤ 8) (hk : k < n) (s3 : Int32) (h : Hp) (kx : Int32 → Int32 → Int32 → Hp → Option T) (f : Nat) : f_X6_mended_l36 (nI n) s3 kx (f + 1) 1 (nI (r / 10 ^ k)) (nI k) (DDp h r k) = f_X6_mended_l36 (nI n) s3 kx f (if dg r k = 0 then 0 else 1) (nI (r / 10 ^ (k + 1))) (nI (k + 1)) (DDp h r (k + 1)) := by
  have hle : r / 10 ^ k < 2 ^ 31 := Nat.lt_of_le_of_lt (Nat.div_le_self _ _) hr
  have hd := dg_lt r k
  have e : (if nI (dg r k) ≤ 0 then (some (0 : Int32)) else (some (1 : Int32))) = some (if dg r k = 0 then 0 else 1) := by
    by_cases h0 : dg r k = 0
    · rw [h0]; rfl
    · rw [if_neg (show ¬ nI (dg r k) ≤ 0 from nI_ge (a := 0) (by omega) (by omega)), if_neg h0]
  rw [f_X6_mended_l36, if_neg (nI_ge hk (by omega)), if_neg one_ne, show irem (nI (r / 10 ^ k)) (10 : Int32) = nI (dg r k) from irem_nI (d := 10) hle (by omega) (by omega), ast_ok _ _ _ (show k < 9 by omega) (by omega), DDp_s]
  simp only [obs]
  rw [ald_ok _ _ (show k < 9 by omega) (by omega), DDp_at _ _ (show k < k + 1 by omega)]
  simp only [obs]
  rw [e]
  simp only [obs]
  rw [show nI (r / 10 ^ k) / (10 : Int32) = nI (r / 10 ^ k / 10) from div_nI (d := 10) hle (by omega) (by omega), Nat.div_div_eq_div_mul, ← Nat.pow_succ, nI_succ']
theorem M_l36_all {T : Type} {r n : Nat} (hr : r < 2 ^ 31) (hn : n ≤ 8) (ha : ∀ k, k < n → dg r k ≠ 0) (s3 : Int32) (h : Hp) (kx : Int32 → Int32 → Int32 → Hp → Option T) : f_X6_mended_l36 (nI n) s3 kx FU 1 (nI r) 0 h = kx 1 (nI (r / 10 ^ n)) (nI n) (DDp h r n) := by
  have key := loop_FU (fun f (q : Int32 × Int32 × Int32 × Hp) => f_X6_mended_l36 (nI n) s3 kx f q.1 q.2.1 q.2.2.1 q.2.2.2) (fun k => (1, nI (r / 10 ^ k), nI k, DDp h r k)) n (kx 1 (nI (r / 10 ^ n)) (nI n) (DDp h r n)) (by omega) (fun f k hk => by
      show f_X6_mended_l36 (nI n) s3 kx (f + 1) 1 (nI (r / 10 ^ k)) (nI k) (DDp h r k) = f_X6_mended_l36 (nI n) s3 kx f 1 (nI (r / 10 ^ (k + 1))) (nI (k + 1)) (DDp h r (k + 1))
      rw [M_l36_s hr hn hk, if_neg (ha k hk)])
    (fun f => by
      show f_X6_mended_l36 (nI n) s3 kx (f + 1) 1 (nI (r / 10 ^ n)) (nI n) (DDp h r n) = _
      rw [f_X6_mended_l36, if_pos (nI_le (Nat.le_refl n) (by omega))])
  dsimp only at key
  rw [Nat.pow_zero, Nat.div_one, show DDp h r 0 = h by unfold DDp; simp] at key
  exact key
theorem M_l36_z {T : Type} {r n z : Nat} (hr : r < 2 ^ 31) (hn : n ≤ 8) (hz : z < n) (h0 : dg r z = 0) (ha : ∀ k, k < z → dg r k ≠ 0) (s3 : Int32) (h : Hp) (kx : Int32 → Int32 → Int32 → Hp → Option T) : f_X6_mended_l36 (nI n) s3 kx FU 1 (nI r) 0 h = kx 0 (nI (r / 10 ^ (z + 1))) (nI (z + 1)) (DDp h r (z + 1)) := by
  have key := loop_FU (fun f (q : Int32 × Int32 × Int32 × Hp) => f_X6_mended_l36 (nI n) s3 kx f q.1 q.2.1 q.2.2.1 q.2.2.2) (fun k => (if k ≤ z then 1 else 0, nI (r / 10 ^ k), nI k, DDp h r k)) (z + 1) (kx 0 (nI (r / 10 ^ (z + 1))) (nI (z + 1)) (DDp h r (z + 1))) (by omega) (fun f k hk => by
      show f_X6_mended_l36 (nI n) s3 kx (f + 1) (if k ≤ z then 1 else 0) (nI (r / 10 ^ k)) (nI k) (DDp h r k) = f_X6_mended_l36 (nI n) s3 kx f (if k + 1 ≤ z then 1 else 0) (nI (r / 10 ^ (k + 1))) (nI (k + 1)) (DDp h r (k + 1))
      rw [if_pos (show k ≤ z by omega), M_l36_s hr hn (by omega)]
      by_cases e : k = z
      · rw [e, if_pos h0, if_neg (show ¬ z + 1 ≤ z by omega)]
      · rw [if_neg (ha k (by omega)), if_pos (show k + 1 ≤ z by omega)])
    (fun f => by
      show f_X6_mended_l36 (nI n) s3 kx (f + 1) (if z + 1 ≤ z then 1 else 0) (nI (r / 10 ^ (z + 1))) (nI (z + 1)) (DDp h r (z + 1)) = _
      rw [if_neg (show ¬ z + 1 ≤ z by omega), f_X6_mended_l36]
      by_cases hc : n ≤ z + 1
      · rw [if_pos (nI_le hc (by omega))]
      · rw [if_neg (nI_ge (by omega) (by omega)), if_pos rfl])
  dsimp only at key
  rw [if_pos (Nat.zero_le z), Nat.pow_zero, Nat.div_one, show DDp h r 0 = h by unfold DDp; simp] at key
  exact key
theorem M_l36_0 {T : Type} (s2 s3 s5 s6 : Int32) (h : Hp) (kx : Int32 → Int32 → Int32 → Hp → Option T) : f_X6_mended_l36 s2 s3 kx FU 0 s5 s6 h = kx 0 s5 s6 h := by
  obtain ⟨f, hf⟩ : ∃ f, FU = f + 1 := ⟨FU - 1, by rw [FU_eq]⟩
  rw [hf, f_X6_mended_l36]
  by_cases hc : s2 ≤ s6
  · rw [if_pos hc]
  · rw [if_neg hc, if_pos rfl]
def HHp (G : Hp) (D : Nat → Nat) (hh c i : Nat) : Hp := (fun a b => if a = 7 ∧ b < 4 then nI (hlN D hh c b i) else G.1 a b, G.2)
def HcN (G : Hp) (D : Nat → Nat) (hh n : Nat) : Nat → Hp
  | 0 => G
  | c + 1 => HHp G D hh c n
theorem HHp_at (G : Hp) (D : Nat → Nat) (hh c i : Nat) {b : Nat} (hb : b < 4) : (HHp G D hh c i).1 7 b = nI (hlN D hh c b i) := by
  unfold HHp
  simp [hb]
theorem HHp_row (G : Hp) (D : Nat → Nat) (hh c i : Nat) {a : Nat} (ha : a ≠ 7) : (HHp G D hh c i).1 a = G.1 a := by
  unfold HHp
  funext b
  simp [ha]
theorem HcN_row (G : Hp) (D : Nat → Nat) (hh n : Nat) {a : Nat} (ha : a ≠ 7) : ∀ c, (HcN G D hh n c).1 a = G.1 a
  | 0 => rfl
  | c + 1 => HHp_row G D hh c n ha
theorem HHp_s (G : Hp) (D : Nat → Nat) (hh c i : Nat) : ip (HHp G D hh c i) 7 (cdN hh c i) (nI (hlN D hh c (cdN hh c i) (i + 1))) = (if cdN hh c i < 4 then HHp G D hh c (i + 1) else ip (HHp G D hh c i) 7 (cdN hh c i) (nI (hlN D hh c (cdN hh c i) (i + 1)))) := by
  by_cases h4 : cdN hh c i < 4
  · rw [if_pos h4]
    refine Prod.ext ?_ rfl
    funext a b
    rw [ip_at]
    show (if a = 7 ∧ b = cdN hh c i then nI (hlN D hh c (cdN hh c i) (i + 1)) else if a = 7 ∧ b < 4 then nI (hlN D hh c b i) else G.1 a b) = (if a = 7 ∧ b < 4 then nI (hlN D hh c b (i + 1)) else G.1 a b)
    by_cases h1 : a = 7 ∧ b = cdN hh c i
    · rw [if_pos h1, if_pos (by omega), h1.2]
    · rw [if_neg h1]
      by_cases h2 : a = 7 ∧ b < 4
      · rw [if_pos h2, if_pos h2, hlN_s, if_neg (show ¬ cdN hh c i = b by omega), Nat.add_zero]
      · rw [if_neg h2, if_neg h2]
  · rw [if_neg h4]
theorem fill_HH (G : Hp) (D : Nat → Nat) (hh n c : Nat) : fillH (HcN G D hh n c) 7 0 4 = HHp G D hh c 0 := by
  have h0 : ∀ b, nI (hlN D hh c b 0) = 0 := fun b => rfl
  cases c with
  | zero =>
    refine Prod.ext ?_ rfl
    funext a b
    show (if a = 7 ∧ b < 4 then (0 : Int32) else G.1 a b) = (if a = 7 ∧ b < 4 then nI (hlN D hh 0 b 0) else G.1 a b)
    rw [h0]
  | succ c =>
    refine Prod.ext ?_ rfl
    funext a b
    show (if a = 7 ∧ b < 4 then (0 : Int32) else if a = 7 ∧ b < 4 then nI (hlN D hh c b n) else G.1 a b) = (if a = 7 ∧ b < 4 then nI (hlN D hh (c + 1) b 0) else G.1 a b)
    rw [h0]
    by_cases h2 : a = 7 ∧ b < 4
    · rw [if_pos h2, if_pos h2]
    · rw [if_neg h2, if_neg h2, if_neg h2]
theorem hlN_le {D : Nat → Nat} (hD : ∀ i, D i ≤ 9) (hh c j i : Nat) : hlN D hh c j i ≤ i * 9 := by
  unfold hlN
  refine sN_le (fun q _ => ?_)
  show (if cdN hh c q = j then D q else 0) ≤ 9
  split
  · exact hD q
  · exact Nat.zero_le _
theorem lgN_top {D : Nat → Nat} (hD : ∀ i, D i ≤ 9) (hh c : Nat) : ∀ i, lgN D hh c i ≤ i * 9
  | 0 => Nat.zero_le _
  | i + 1 => by
    have h1 := lgN_top hD hh c i
    have h2 := hlN_le hD hh c (cdN hh c i) (i + 1)
    rw [lgN]
    omega
theorem irm_ok {a b : Nat} (ha : a < 2 ^ 31) (hb : b < 2 ^ 31) (h0 : 0 < b) : irm (nI a) (nI b) = some (nI (a % b)) := by
  unfold irm
  rw [if_neg (nzn hb (by omega)), irem_nI ha h0 hb]
theorem M_l150 {T : Type} (s2 s3 s6 s7 s8 s9 s10 : Int32) (h : Hp) (kx : Int32 → Hp → Option T) : f_X6_mended_l150 s2 s3 s6 s7 s8 s9 s10 kx FU 0 h = kx (nI 4) (fillH h 7 0 4) := by
  have key := loop_FU (fun f (q : Int32 × Hp) => f_X6_mended_l150 s2 s3 s6 s7 s8 s9 s10 kx f q.1 q.2) (fun k => (nI k, fillH h 7 0 k)) 4 (kx (nI 4) (fillH h 7 0 4)) (by omega) (fun f k hk => by
      show f_X6_mended_l150 s2 s3 s6 s7 s8 s9 s10 kx (f + 1) (nI k) (fillH h 7 0 k) = f_X6_mended_l150 s2 s3 s6 s7 s8 s9 s10 kx f (nI (k + 1)) (fillH h 7 0 (k + 1))
      rw [f_X6_mended_l150, if_neg (g4 hk), ast_ok _ _ _ hk (by omega), fillH_s]
      simp only [obs]
      rw [nI_succ'])
    (fun f => by
      show f_X6_mended_l150 s2 s3 s6 s7 s8 s9 s10 kx (f + 1) (nI 4) (fillH h 7 0 4) = _
      rw [f_X6_mended_l150, if_pos e4])
  dsimp only at key
  rw [fillH_0] at key
  exact key
section MEND
variable {D : Nat → Nat} {hh n : Nat} {G : Hp}
theorem M_l173 {T : Type} (hD : ∀ i, D i ≤ 9) (h0 : 0 < hh) (h4 : hh ≤ 4) (hn : n ≤ 8) (hG : ∀ i, i < n → G.1 6 i = nI (D i)) {c : Nat} (hc : c < 100000) (s6 s7 s8 : Int32) (kx : Int32 → Int32 → Int32 → Hp → Option T) : f_X6_mended_l173 (nI n) (nI hh) s6 s7 s8 kx FU (nI c) 0 0 (HHp G D hh c 0) = kx (nI (c / hh ^ n)) (nI (lgN D hh c n)) (nI n) (HHp G D hh c n) := by
  have key := loop_FU (fun f (q : Int32 × Int32 × Int32 × Hp) => f_X6_mended_l173 (nI n) (nI hh) s6 s7 s8 kx f q.1 q.2.1 q.2.2.1 q.2.2.2) (fun i => (nI (c / hh ^ i), nI (lgN D hh c i), nI i, HHp G D hh c i)) n (kx (nI (c / hh ^ n)) (nI (lgN D hh c n)) (nI n) (HHp G D hh c n)) (by omega) (fun f i hi => by
      show f_X6_mended_l173 (nI n) (nI hh) s6 s7 s8 kx (f + 1) (nI (c / hh ^ i)) (nI (lgN D hh c i)) (nI i) (HHp G D hh c i) = f_X6_mended_l173 (nI n) (nI hh) s6 s7 s8 kx f (nI (c / hh ^ (i + 1))) (nI (lgN D hh c (i + 1))) (nI (i + 1)) (HHp G D hh c (i + 1))
      have hle : c / hh ^ i < 2 ^ 31 := Nat.lt_of_le_of_lt (Nat.div_le_self _ _) (by omega)
      have hcd : cdN hh c i < hh := Nat.mod_lt _ h0
      have hl1 := hlN_le hD hh c (cdN hh c i) i
      have hl2 := hlN_le hD hh c (cdN hh c i) (i + 1)
      have hlg := lgN_top hD hh c i
      have er : irm (nI (c / hh ^ i)) (nI hh) = some (nI (cdN hh c i)) := irm_ok hle (by omega) h0
      have eh : nI (hlN D hh c (cdN hh c i) i) + nI (D i) = nI (hlN D hh c (cdN hh c i) (i + 1)) := by
        rw [hlN_s, if_pos rfl, nI_add]
      rw [f_X6_mended_l173, if_neg (nI_ge hi (by omega)), er]
      simp only [obs]
      rw [ald_ok _ _ (show cdN hh c i < 4 by omega) (by omega), HHp_at _ _ _ _ _ (show cdN hh c i < 4 by omega), ald_ok _ _ (show i < 9 by omega) (by omega), HHp_row _ _ _ _ _ (show 6 ≠ 7 by omega), hG i hi]
      simp only [obs]
      rw [eh, ast_ok _ _ _ (show cdN hh c i < 4 by omega) (by omega), HHp_s, if_pos (show cdN hh c i < 4 by omega)]
      simp only [obs]
      rw [ald_ok _ _ (show cdN hh c i < 4 by omega) (by omega), HHp_at _ _ _ _ _ (show cdN hh c i < 4 by omega)]
      simp only [obs]
      have et : (if nI (hlN D hh c (cdN hh c i) (i + 1)) ≤ nI (lgN D hh c i) then some (nI (lgN D hh c i)) else some (nI (hlN D hh c (cdN hh c i) (i + 1)))) = some (nI (lgN D hh c (i + 1))) := by
        rw [lgN]
        by_cases h : hlN D hh c (cdN hh c i) (i + 1) ≤ lgN D hh c i
        · rw [if_pos (nI_le h (by omega)), show max (lgN D hh c i) (hlN D hh c (cdN hh c i) (i + 1)) = lgN D hh c i by omega]
        · rw [if_neg (nI_ge (by omega) (by omega)), show max (lgN D hh c i) (hlN D hh c (cdN hh c i) (i + 1)) = hlN D hh c (cdN hh c i) (i + 1) by omega]
      rw [et]
      simp only [obs]
      rw [idv_ok hle (by omega) h0, Nat.div_div_eq_div_mul, ← Nat.pow_succ]
      simp only [obs]
      rw [nI_succ'])
    (fun f => by
      show f_X6_mended_l173 (nI n) (nI hh) s6 s7 s8 kx (f + 1) (nI (c / hh ^ n)) (nI (lgN D hh c n)) (nI n) (HHp G D hh c n) = _
      rw [f_X6_mended_l173, if_pos (nI_le (Nat.le_refl n) (by omega))])
  dsimp only at key
  rw [Nat.pow_zero, Nat.div_one] at key
  exact key
theorem M_l133 {T : Type} (hD : ∀ i, D i ≤ 9) (h0 : 0 < hh) (h4 : hh ≤ 4) (hn : n ≤ 8) (hG : ∀ i, i < n → G.1 6 i = nI (D i)) {m : Nat} (hm : m < 100000) (kx : Int32 → Int32 → Hp → Option T) : f_X6_mended_l133 (nI n) (nI hh) (nI m) kx FU 1000000 0 G = kx (nI (lsN D hh n m)) (nI m) (HcN G D hh n m) := by
  refine loop_FU (fun f (q : Int32 × Int32 × Hp) => f_X6_mended_l133 (nI n) (nI hh) (nI m) kx f q.1 q.2.1 q.2.2) (fun c => (nI (lsN D hh n c), nI c, HcN G D hh n c)) m _ hm (fun f c hc => ?_) (fun f => ?_)
  · show f_X6_mended_l133 (nI n) (nI hh) (nI m) kx (f + 1) (nI (lsN D hh n c)) (nI c) (HcN G D hh n c) = f_X6_mended_l133 (nI n) (nI hh) (nI m) kx f (nI (lsN D hh n (c + 1))) (nI (c + 1)) (HHp G D hh c n)
    have hl := lsN_top D hh n c
    have hg := lgN_top hD hh c n
    have et : (if nI (lsN D hh n c) ≤ nI (lgN D hh c n) then some (nI (lsN D hh n c)) else some (nI (lgN D hh c n))) = some (nI (lsN D hh n (c + 1))) := by
      rw [lsN]
      by_cases h : lsN D hh n c ≤ lgN D hh c n
      · rw [if_pos (nI_le h (by omega)), show min (lsN D hh n c) (lgN D hh c n) = lsN D hh n c by omega]
      · rw [if_neg (nI_ge (by omega) (by omega)), show min (lsN D hh n c) (lgN D hh c n) = lgN D hh c n by omega]
    rw [f_X6_mended_l133, if_neg (nI_ge hc (by omega)), M_l150, fill_HH, M_l173 hD h0 h4 hn hG (by omega), et]
    simp only [obs]
    rw [nI_succ']
  · show f_X6_mended_l133 (nI n) (nI hh) (nI m) kx (f + 1) (nI (lsN D hh n m)) (nI m) (HcN G D hh n m) = _
    rw [f_X6_mended_l133, if_pos (nI_le (Nat.le_refl m) (by omega))]
end MEND
theorem M_l108 {T : Type} {n hh : Nat} (hn : n ≤ 8) (kx : Int32 → Int32 → Option T) : f_X6_mended_l108 (nI n) (nI hh) kx FU 1 0 = kx (nI (hh ^ n)) (nI n) := by
  refine loop_FU (fun f (q : Int32 × Int32) => f_X6_mended_l108 (nI n) (nI hh) kx f q.1 q.2) (fun k => (nI (hh ^ k), nI k)) n _ (by omega) (fun f k hk => ?_) (fun f => ?_)
  · show f_X6_mended_l108 (nI n) (nI hh) kx (f + 1) (nI (hh ^ k)) (nI k) = f_X6_mended_l108 (nI n) (nI hh) kx f (nI (hh ^ (k + 1))) (nI (k + 1))
    rw [f_X6_mended_l108, if_neg (nI_ge hk (by omega)), pk_mul, ← Nat.pow_succ]
    simp only [obs]
    rw [nI_succ']
  · show f_X6_mended_l108 (nI n) (nI hh) kx (f + 1) (nI (hh ^ n)) (nI n) = _
    rw [f_X6_mended_l108, if_pos (nI_le (Nat.le_refl n) (by omega))]
theorem r_mended : op_mended Rl := by
  intro hx hm x1 x2 x3 hr
  have frD : ∀ r k, Rl hx (DDp hm r k) := fun r k => hr.frame (eqX.rf _) ⟨fun q hq => DDp_row _ _ _ (by omega), fun j _ => by rw [DDp_row _ _ _ (by omega)]⟩
  rcases in_cases x2 1 8 (by omega) (by omega) with ⟨e, -⟩ | ⟨n, hn1, hn, rfl, e⟩
  · refine ⟨-2, hx, hm, ?_, ?_, hr⟩
    · rw [f_X5_mended, wi_eq, show f_X6_in x2 (1 : Int32) (8 : Int32) = some 0 from e]
      rfl
    · rw [f_X6_mended, show f_X6_in x2 (1 : Int32) (8 : Int32) = some 0 from e]
      simp only [obs, if_true]
      rw [M_l36_0, if_pos rfl]
  rcases in_cases x3 1 4 (by omega) (by omega) with ⟨e2, -⟩ | ⟨hh, hh1, hh4, rfl, e2⟩
  · refine ⟨-2, hx, hm, ?_, ?_, hr⟩
    · rw [f_X5_mended, wi_eq, wi_eq, show f_X6_in (nI n) (1 : Int32) (8 : Int32) = some 1 from e]
      simp only [obs, if_neg one_ne]
      rw [show f_X6_in x3 (1 : Int32) (4 : Int32) = some 0 from e2]
      rfl
    · rw [f_X6_mended, show f_X6_in (nI n) (1 : Int32) (8 : Int32) = some 1 from e]
      simp only [obs, if_neg one_ne]
      rw [show f_X6_in x3 (1 : Int32) (4 : Int32) = some 0 from e2]
      have et : (if x1 ≤ 0 then (some (0 : Int32)) else (Option.bind (some (0 : Int32)) fun v44 => if v44 = 0 then (some (0 : Int32)) else (some (1 : Int32)))) = some 0 := by
        split <;> rfl
      rw [et]
      simp only [obs]
      rw [M_l36_0, if_pos rfl]
  by_cases hneg : x1 < 0
  · refine ⟨-2, hx, hm, ?_, ?_, hr⟩
    · rw [f_X5_mended, wi_eq, wi_eq, show f_X6_in (nI n) (1 : Int32) (8 : Int32) = some 1 from e]
      simp only [obs, if_neg one_ne]
      rw [show f_X6_in (nI hh) (1 : Int32) (4 : Int32) = some 1 from e2]
      simp only [obs, if_neg one_ne]
      rw [f_X5_hasDigits, if_pos hneg]
      rfl
    · have hle : x1 ≤ 0 := by
        rw [Int32.lt_iff_toInt_lt] at hneg
        rw [Int32.le_iff_toInt_le]
        omega
      rw [f_X6_mended, show f_X6_in (nI n) (1 : Int32) (8 : Int32) = some 1 from e]
      simp only [obs, if_neg one_ne]
      rw [if_pos hle]
      simp only [obs]
      rw [M_l36_0, if_pos rfl]
  obtain ⟨r, hr31, rfl⟩ := nI_of hneg
  obtain ⟨k, rfl⟩ : ∃ k, hh = k + 1 := ⟨hh - 1, by omega⟩
  by_cases hz : r = 0
  · subst hz
    have hd0 : dg 0 0 = 0 := by decide
    refine ⟨-2, hx, hm, ?_, ?_, hr⟩
    · rw [f_X5_mended, wi_eq, wi_eq, show f_X6_in (nI n) (1 : Int32) (8 : Int32) = some 1 from e]
      simp only [obs, if_neg one_ne]
      rw [show f_X6_in (nI (k + 1)) (1 : Int32) (4 : Int32) = some 1 from e2]
      simp only [obs, if_neg one_ne]
      rw [X_has_no hr31 hn (fun q => q.2 0 (by omega) hd0)]
      rfl
    · rw [f_X6_mended, show f_X6_in (nI n) (1 : Int32) (8 : Int32) = some 1 from e]
      simp only [obs, if_neg one_ne]
      rw [if_pos (show nI 0 ≤ 0 by decide)]
      simp only [obs]
      rw [M_l36_0, if_pos rfl]
  have hM : ∀ (kx : Int32 → Int32 → Int32 → Hp → Option (Int32 × Hp)), (Option.bind (if nI r ≤ 0 then (some (0 : Int32)) else (Option.bind (f_X6_in (nI (k + 1)) (1 : Int32) (4 : Int32)) fun v44 => if v44 = 0 then (some (0 : Int32)) else (some (1 : Int32)))) fun t3 => f_X6_mended_l36 (nI n) (nI (k + 1)) kx FU t3 (nI r) (0 : Int32) hm) = f_X6_mended_l36 (nI n) (nI (k + 1)) kx FU 1 (nI r) (0 : Int32) hm := fun kx => by
    rw [if_neg (show ¬ nI r ≤ 0 from nI_ge (a := 0) (by omega) (by omega)), show f_X6_in (nI (k + 1)) (1 : Int32) (4 : Int32) = some 1 from e2]
    simp only [obs, if_neg one_ne]
  by_cases hall : ∀ i, i < n → dg r i ≠ 0
  · by_cases hlt : r < 10 ^ n
    · have hb : (k + 1) ^ n ≤ 4 ^ 8 := Nat.le_trans (Nat.pow_le_pow_left (by omega) n) (Nat.pow_le_pow_right (by omega) hn)
      refine ⟨nI (fwN (ldN (dg r)) k (2 ^ n - 1)), GHp hx (dg r) (2 ^ n) k (2 ^ n), HcN (DDp hm r n) (dg r) (k + 1) n ((k + 1) ^ n), X_mended hr31 hn1 hn (by omega) hlt hall hx, ?_, ?_⟩
      · rw [f_X6_mended, show f_X6_in (nI n) (1 : Int32) (8 : Int32) = some 1 from e]
        simp only [obs, if_neg one_ne]
        rw [hM, M_l36_all hr31 hn hall, if_neg one_ne, Nat.div_eq_of_lt hlt, if_pos (show nI 0 = 0 from rfl), M_l108 hn, M_l133 (dg_9 r) (by omega) (by omega) hn (fun i hi => DDp_at _ _ hi) (by omega), mend_same (dg_9 r) hn]
      · exact (frD r n).frame (fun q hq => GHp_row _ _ _ _ _ (by omega) (by omega)) ⟨fun q hq => HcN_row _ _ _ _ (by omega) _, fun j _ => by rw [HcN_row _ _ _ _ (by omega)]⟩
    · have hne : r / 10 ^ n ≠ 0 := by
        have := Nat.div_pos (Nat.le_of_not_lt hlt) (Nat.pow_pos (n := n) (show 0 < 10 by omega))
        omega
      have hle : r / 10 ^ n ≤ r := Nat.div_le_self _ _
      refine ⟨-2, hx, DDp hm r n, ?_, ?_, frD r n⟩
      · rw [f_X5_mended, wi_eq, wi_eq, show f_X6_in (nI n) (1 : Int32) (8 : Int32) = some 1 from e]
        simp only [obs, if_neg one_ne]
        rw [show f_X6_in (nI (k + 1)) (1 : Int32) (4 : Int32) = some 1 from e2]
        simp only [obs, if_neg one_ne]
        rw [X_has_no hr31 hn (fun q => hlt q.1)]
        rfl
      · rw [f_X6_mended, show f_X6_in (nI n) (1 : Int32) (8 : Int32) = some 1 from e]
        simp only [obs, if_neg one_ne]
        rw [hM, M_l36_all hr31 hn hall, if_neg one_ne, if_neg (nzn (show r / 10 ^ n < 2 ^ 31 by omega) hne)]
  · have hex : ∃ i, i < n ∧ dg r i = 0 := by
      apply Classical.byContradiction
      intro hno
      exact hall (fun i hi h0 => hno ⟨i, hi, h0⟩)
    obtain ⟨z, ⟨z1, z2⟩, z3⟩ := pk_least (fun i => i < n ∧ dg r i = 0) hex
    refine ⟨-2, hx, DDp hm r (z + 1), ?_, ?_, frD r (z + 1)⟩
    · rw [f_X5_mended, wi_eq, wi_eq, show f_X6_in (nI n) (1 : Int32) (8 : Int32) = some 1 from e]
      simp only [obs, if_neg one_ne]
      rw [show f_X6_in (nI (k + 1)) (1 : Int32) (4 : Int32) = some 1 from e2]
      simp only [obs, if_neg one_ne]
      rw [X_has_no hr31 hn (fun q => hall q.2)]
      rfl
    · rw [f_X6_mended, show f_X6_in (nI n) (1 : Int32) (8 : Int32) = some 1 from e]
      simp only [obs, if_neg one_ne]
      rw [hM, M_l36_z hr31 hn z1 z2 (fun i hi h0 => z3 i hi ⟨by omega, h0⟩), if_pos rfl]
