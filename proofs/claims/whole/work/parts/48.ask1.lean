/-! ASK: the tallies. -/
def CH (h : Hp) (r N : Nat) (v : Nat → Nat) (n : Nat) : Hp := (fun a b => if a = r ∧ b < N then nI (eqc v b n) else h.1 a b, h.2)
theorem CH_row (h : Hp) (r N : Nat) (v : Nat → Nat) (n : Nat) {a : Nat} (ha : a ≠ r) : (CH h r N v n).1 a = h.1 a := by
  unfold CH
  funext b
  simp [ha]
theorem CH_at (h : Hp) (r N : Nat) (v : Nat → Nat) (n : Nat) {b : Nat} (hb : b < N) : (CH h r N v n).1 r b = nI (eqc v b n) := by
  unfold CH
  simp [hb]
theorem CH_s (h : Hp) (r N : Nat) (v : Nat → Nat) (n : Nat) : ip (CH h r N v n) r (v n) (nI (eqc v (v n) n + 1)) = CH h r N v (n + 1) ∨ ¬ v n < N := by
  by_cases hv : v n < N
  · left
    refine Prod.ext ?_ rfl
    funext a b
    rw [ip_at]
    show (if a = r ∧ b = v n then nI (eqc v (v n) n + 1) else if a = r ∧ b < N then nI (eqc v b n) else h.1 a b) = (if a = r ∧ b < N then nI (eqc v b (n + 1)) else h.1 a b)
    rw [eqc]
    by_cases h1 : a = r ∧ b = v n
    · rw [if_pos h1, if_pos ⟨h1.1, by omega⟩, if_pos h1.2.symm, h1.2]
    · rw [if_neg h1]
      by_cases h2 : a = r ∧ b < N
      · rw [if_pos h2, if_pos h2, if_neg (fun q => h1 ⟨h2.1, q.symm⟩)]
      · rw [if_neg h2, if_neg h2]
  · exact Or.inr hv
theorem CH_0 (h : Hp) (r N : Nat) (v : Nat → Nat) : fillH h r 0 N = CH h r N v 0 := by
  refine Prod.ext ?_ rfl
  funext a b
  rfl
theorem CH_CH (h : Hp) (r N : Nat) (v u : Nat → Nat) (n : Nat) : CH (CH h r N v n) r N u 0 = CH h r N u 0 := by
  refine Prod.ext ?_ rfl
  funext a b
  show (if a = r ∧ b < N then nI (eqc u b 0) else if a = r ∧ b < N then nI (eqc v b n) else h.1 a b) = (if a = r ∧ b < N then nI (eqc u b 0) else h.1 a b)
  split <;> rfl
theorem X_most {h : Hp} {w : Nat → Nat} {cnt k d : Nat} (hk : k ≤ 1) (hd : d ≤ 10) (hc : cnt ≤ 1000) (hw : ∀ i, i < cnt → w i < 1000 ∧ h.1 37 i = nI (w i)) :
    f_X5_mostLeft (nI k) (nI d) (nI cnt) h = some (nI (mst (fun i => rdn k d (w i)) cnt), CH h 38 280 (fun i => rdn k d (w i)) cnt) := by
  rw [f_X5_mostLeft, fill_ok _ _ _ _ (by omega)]
  simp only [obs]
  rw [CH_0 h 38 280 (fun i => rdn k d (w i))]
  refine loop_FU (fun f (q : Int32 × Int32 × Hp) => f_X5_mostLeft_l14 (nI k) (nI d) (nI cnt) (fun (w9 : Int32) (w10 : Int32) (h11 : Hp) => some (w9, h11)) f q.1 q.2.1 q.2.2) (fun n => (nI (mst (fun i => rdn k d (w i)) n), nI n, CH h 38 280 (fun i => rdn k d (w i)) n)) cnt _ (by omega) (fun f n hn => ?_) (fun f => ?_)
  · show f_X5_mostLeft_l14 (nI k) (nI d) (nI cnt) _ (f + 1) (nI (mst (fun i => rdn k d (w i)) n)) (nI n) (CH h 38 280 (fun i => rdn k d (w i)) n) = f_X5_mostLeft_l14 (nI k) (nI d) (nI cnt) _ f (nI (mst (fun i => rdn k d (w i)) (n + 1))) (nI (n + 1)) (CH h 38 280 (fun i => rdn k d (w i)) (n + 1))
    obtain ⟨w1, w2⟩ := hw n hn
    have hr := rdn_lt (k := k) w1 (show d ≤ 20 by omega)
    have hr2 : rdn k d (w n) < 280 := by omega
    have hml := mst_le (fun i => rdn k d (w i)) n
    have hel := eqc_le (fun i => rdn k d (w i)) (rdn k d (w n)) n
    rw [f_X5_mostLeft_l14, if_neg (nI_ge hn (by omega)), at_ok _ _ (show n < 1000 by omega) (by omega), CH_row _ _ _ _ _ (show 37 ≠ 38 by omega), w2]
    simp only [obs]
    rw [read_v, rdv_n hk (by omega) w1]
    simp only [obs]
    rw [at_ok _ _ hr2 (by omega), CH_at _ _ _ _ _ hr2]
    simp only [obs]
    rw [nI_succ', put_ok _ _ _ hr2 (by omega), (CH_s h 38 280 (fun i => rdn k d (w i)) n).resolve_right (fun q => q hr2)]
    simp only [obs]
    rw [imax_nI (by omega) (by omega), nI_succ']
    rfl
  · show f_X5_mostLeft_l14 (nI k) (nI d) (nI cnt) _ (f + 1) (nI (mst (fun i => rdn k d (w i)) cnt)) (nI cnt) _ = _
    rw [f_X5_mostLeft_l14, if_pos (nI_le (Nat.le_refl cnt) (by omega))]
