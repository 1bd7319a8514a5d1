/-! ASK: how many at most are left after a question, on plain numbers. -/
def eqc (v : Nat → Nat) (x : Nat) : Nat → Nat
  | 0 => 0
  | n + 1 => if v n = x then eqc v x n + 1 else eqc v x n
def mst (v : Nat → Nat) : Nat → Nat
  | 0 => 0
  | n + 1 => max (mst v n) (eqc v (v n) n + 1)
theorem eqc_le (v : Nat → Nat) (x : Nat) : ∀ n, eqc v x n ≤ n
  | 0 => Nat.le_refl _
  | n + 1 => by
    have := eqc_le v x n
    rw [eqc]
    split <;> omega
theorem mst_le (v : Nat → Nat) : ∀ n, mst v n ≤ n
  | 0 => Nat.le_refl _
  | n + 1 => by
    have h1 := mst_le v n
    have h2 := eqc_le v (v n) n
    rw [mst]
    omega
theorem eqc_pat {v u : Nat → Nat} {N m : Nat} (hm : m < N) (h : ∀ i j, i < N → j < N → (v i = v j ↔ u i = u j)) : ∀ n, n ≤ N → eqc v (v m) n = eqc u (u m) n := by
  intro n
  induction n with
  | zero => intro _; rfl
  | succ n ih =>
    intro hn
    rw [eqc, eqc, ih (by omega)]
    by_cases e : v n = v m
    · rw [if_pos e, if_pos ((h n m (by omega) hm).mp e)]
    · rw [if_neg e, if_neg (fun q => e ((h n m (by omega) hm).mpr q))]
theorem mst_pat {v u : Nat → Nat} {N : Nat} (h : ∀ i j, i < N → j < N → (v i = v j ↔ u i = u j)) : ∀ n, n ≤ N → mst v n = mst u n := by
  intro n
  induction n with
  | zero => intro _; rfl
  | succ n ih =>
    intro hn
    rw [mst, mst, ih (by omega), eqc_pat (by omega) h n (by omega)]
/-- what a number g tells: kind k, day d -/
def rdn (k d g : Nat) : Nat := if k = 1 then d * (g / 10 % 10 + g % 10) else g / 100 + d * (g / 10 % 10 + 2 * (g % 10))
theorem rdn_lt {k d g : Nat} (hg : g < 1000) (hd : d ≤ 20) : rdn k d g ≤ 9 + d * 27 := by
  unfold rdn
  have h1 : g / 10 % 10 + g % 10 ≤ 27 := by omega
  have h2 : g / 10 % 10 + 2 * (g % 10) ≤ 27 := by omega
  split
  · have := Nat.mul_le_mul_left d h1
    omega
  · have := Nat.mul_le_mul_left d h2
    omega
theorem rdv_n {k d g : Nat} (hk : k ≤ 1) (hd : d ≤ 20) (hg : g < 1000) : rdv (nI k) (nI d) (nI g) = nI (rdn k d g) := by
  unfold rdv rdn
  rw [show nI g / (10 : Int32) = nI (g / 10) from div_nI (d := 10) (by omega) (by omega) (by omega), show irem (nI (g / 10)) (10 : Int32) = nI (g / 10 % 10) from irem_nI (d := 10) (by omega) (by omega) (by omega), show irem (nI g) (10 : Int32) = nI (g % 10) from irem_nI (d := 10) (by omega) (by omega) (by omega), show nI g / (100 : Int32) = nI (g / 100) from div_nI (d := 100) (by omega) (by omega) (by omega), show (2 : Int32) = nI 2 from rfl, pk_mul, nI_add, nI_add, pk_mul, pk_mul, nI_add]
  have h2 : k = 0 ∨ k = 1 := by omega
  rcases h2 with rfl | rfl
  · rw [if_neg (show ¬ nI 0 = 1 by decide), if_neg (by decide)]
  · rw [if_pos (show nI 1 = 1 from rfl), if_pos rfl]
/-- from the tenth day on the answers part the numbers the same way -/
theorem rdn_pat {k d g g' : Nat} (hg : g < 1000) (hg' : g' < 1000) (hd : 10 ≤ d) : rdn k d g = rdn k d g' ↔ rdn k 10 g = rdn k 10 g' := by
  unfold rdn
  by_cases e : k = 1
  · rw [if_pos e, if_pos e, if_pos e, if_pos e]
    have h1 : d * (g / 10 % 10 + g % 10) = d * (g' / 10 % 10 + g' % 10) ↔ g / 10 % 10 + g % 10 = g' / 10 % 10 + g' % 10 := ⟨fun q => Nat.eq_of_mul_eq_mul_left (by omega) q, fun q => by rw [q]⟩
    rw [h1]
    omega
  · rw [if_neg e, if_neg e, if_neg e, if_neg e]
    have w1 : g / 100 < 10 := by omega
    have w2 : g' / 100 < 10 := by omega
    generalize g / 100 = w at w1
    generalize g' / 100 = w' at w2
    generalize g / 10 % 10 + 2 * (g % 10) = x
    generalize g' / 10 % 10 + 2 * (g' % 10) = x'
    have h1 : ∀ D, 10 ≤ D → (w + D * x = w' + D * x' ↔ w = w' ∧ x = x') := by
      intro D hD
      constructor
      · intro q
        have m1 : (w + D * x) % D = w := by rw [Nat.add_mul_mod_self_left, Nat.mod_eq_of_lt (by omega)]
        have m2 : (w' + D * x') % D = w' := by rw [Nat.add_mul_mod_self_left, Nat.mod_eq_of_lt (by omega)]
        have m3 : w = w' := by rw [← m1, ← m2, q]
        refine ⟨m3, ?_⟩
        rw [m3] at q
        exact Nat.eq_of_mul_eq_mul_left (show 0 < D by omega) (by omega)
      · rintro ⟨q1, q2⟩
        rw [q1, q2]
    rw [h1 d hd, h1 10 (Nat.le_refl _)]
