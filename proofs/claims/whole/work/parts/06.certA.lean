theorem sw_out3_0 {x : Int32} (c0 : ¬ x = (0 : Int32)) (c1 : ¬ x = (1 : Int32)) (c2 : ¬ x = (2 : Int32)) : x.toInt < 0 ∨ 2 < x.toInt := by
  have e0 : x.toInt ≠ 0 := fun e => c0 (Int32.toInt_inj.mp (e.trans (by decide)))
  have e1 : x.toInt ≠ 1 := fun e => c1 (Int32.toInt_inj.mp (e.trans (by decide)))
  have e2 : x.toInt ≠ 2 := fun e => c2 (Int32.toInt_inj.mp (e.trans (by decide)))
  omega
theorem sw_out4_0 {x : Int32} (c0 : ¬ x = (0 : Int32)) (c1 : ¬ x = (1 : Int32)) (c2 : ¬ x = (2 : Int32)) (c3 : ¬ x = (3 : Int32)) : x.toInt < 0 ∨ 3 < x.toInt := by
  have e0 : x.toInt ≠ 0 := fun e => c0 (Int32.toInt_inj.mp (e.trans (by decide)))
  have e1 : x.toInt ≠ 1 := fun e => c1 (Int32.toInt_inj.mp (e.trans (by decide)))
  have e2 : x.toInt ≠ 2 := fun e => c2 (Int32.toInt_inj.mp (e.trans (by decide)))
  have e3 : x.toInt ≠ 3 := fun e => c3 (Int32.toInt_inj.mp (e.trans (by decide)))
  omega
theorem sw_out5_0 {x : Int32} (c0 : ¬ x = (0 : Int32)) (c1 : ¬ x = (1 : Int32)) (c2 : ¬ x = (2 : Int32)) (c3 : ¬ x = (3 : Int32)) (c4 : ¬ x = (4 : Int32)) : x.toInt < 0 ∨ 4 < x.toInt := by
  have e0 : x.toInt ≠ 0 := fun e => c0 (Int32.toInt_inj.mp (e.trans (by decide)))
  have e1 : x.toInt ≠ 1 := fun e => c1 (Int32.toInt_inj.mp (e.trans (by decide)))
  have e2 : x.toInt ≠ 2 := fun e => c2 (Int32.toInt_inj.mp (e.trans (by decide)))
  have e3 : x.toInt ≠ 3 := fun e => c3 (Int32.toInt_inj.mp (e.trans (by decide)))
  have e4 : x.toInt ≠ 4 := fun e => c4 (Int32.toInt_inj.mp (e.trans (by decide)))
  omega
theorem sw_lk_0_1 {x : Int32} {a b d : Int} (c0 : ¬ x = (0 : Int32)) (c1 : ¬ x = (1 : Int32)) : Op.lookupswitch.offset [(0, a), (1, b)] d x.toInt = d := by
  have e0 : x.toInt ≠ 0 := fun e => c0 (Int32.toInt_inj.mp (e.trans (by decide)))
  have e1 : x.toInt ≠ 1 := fun e => c1 (Int32.toInt_inj.mp (e.trans (by decide)))
  simp only [Op.lookupswitch.offset]
  simp [e0, e1, Ne.symm e0, Ne.symm e1]
section CERT
variable {p : Program} {l : Launch} {e : Env} {s : State} {m : MethodId} {args : Array Value} {below : List Frame} {meth : Method} {c : Code} {Z : State → Prop} {o : Om} {emb : Hp → va_W} {A : Nat → Prop} {H0 : Heap}
theorem hd_X5_put : yX5_put.cls ≠ "java/lang/invoke/MethodHandle" ∧ yX5_put.cls ≠ "java/lang/invoke/VarHandle" ∧ (parseMethodDescriptor yX5_put.desc).map (fun d => d.parameters.length) = some 3 := by decide +kernel
set_option maxHeartbeats 4000000 in
set_option maxRecDepth 100000 in
theorem c_X5_put (l : Launch) (o : Om) (emb : Hp → va_W) (A : Nat → Prop) (hA : ∀ h : Hp, va_D A (emb h)) (r1 n1 : Nat) (hE1 : EI o emb r1 n1) (x2 : Int32) (x3 : Int32) (h : Hp)  (h' : Hp) (hf : f_X5_put r1 n1 x2 x3 h = some h') : Ct l o emb A yX5_put cX5_put 3 none 0 0 [.ref (o.1 r1), .int x2, .int x3] h none h' := by
  refine Ct.of RX5 rfl (by decide +kernel) hA (Nat.le_of_ble_eq_true rfl) (fun p e s m args below meth c X => ?_)
  refine J_sub (lo' := [(0, .ref (o.1 r1)), (1, .int x2), (2, .int x3)]) [0, 1, 2] rfl ?_
  rw [f_X5_put] at hf
  refine J_iload_n X 1 dX5_put_0 rfl rfl ?_
  refine J_if_lt (tgt := 14) X dX5_put_1 (by decide) (fun c1 => ?_) (fun c1 => ?_)
  · rw [if_pos c1] at hf
    cases hf
    exact J_vret X dX5_put_14
  · rw [if_neg c1] at hf
    refine J_iload_n X 1 dX5_put_4 rfl rfl ?_
    refine J_aload_n X 0 dX5_put_5 rfl rfl ?_
    refine J_alenI X hE1 (Int32.ofNat n1) (rfl) dX5_put_6 ?_
    refine J_icmp_ge (tgt := 14) X dX5_put_7 (by decide) (fun c7 => ?_) (fun c7 => ?_)
    · rw [if_pos c7] at hf
      cases hf
      exact J_vret X dX5_put_14
    · rw [if_neg c7] at hf
      refine J_aload_n X 0 dX5_put_10 rfl rfl ?_
      refine J_iload_n X 1 dX5_put_11 rfl rfl ?_
      refine J_iload_n X 2 dX5_put_12 rfl rfl ?_
      obtain ⟨h1, qh1, hf⟩ := ob hf
      refine J_iast X hE1 (ast_s qh1).1 dX5_put_13 ?_
      refine J_hp h1 (ast_s qh1).2 ?_
      cases hf
      exact J_vret X dX5_put_14
theorem hd_X5_at : yX5_at.cls ≠ "java/lang/invoke/MethodHandle" ∧ yX5_at.cls ≠ "java/lang/invoke/VarHandle" ∧ (parseMethodDescriptor yX5_at.desc).map (fun d => d.parameters.length) = some 2 := by decide +kernel
set_option maxHeartbeats 4000000 in
set_option maxRecDepth 100000 in
theorem c_X5_at (l : Launch) (o : Om) (emb : Hp → va_W) (A : Nat → Prop) (hA : ∀ h : Hp, va_D A (emb h)) (r1 n1 : Nat) (hE1 : EI o emb r1 n1) (x2 : Int32) (h : Hp) (r : Int32) (hf : f_X5_at r1 n1 x2 h = some r) : Ct l o emb A yX5_at cX5_at 2 (some .int) 0 0 [.ref (o.1 r1), .int x2] h (some (.int r)) h := by
  refine Ct.of RX5 rfl (by decide +kernel) hA (Nat.le_of_ble_eq_true rfl) (fun p e s m args below meth c X => ?_)
  refine J_sub (lo' := [(0, .ref (o.1 r1)), (1, .int x2)]) [0, 1] rfl ?_
  rw [f_X5_at] at hf
  refine J_iload_n X 1 dX5_at_0 rfl rfl ?_
  refine J_if_lt (tgt := 16) X dX5_at_1 (by decide) (fun c1 => ?_) (fun c1 => ?_)
  · rw [if_pos c1] at hf
    refine J_const X (0 : Int32) dX5_at_16 (by decide) ?_
    cases hf
    exact J_iret X dX5_at_17
  · rw [if_neg c1] at hf
    refine J_iload_n X 1 dX5_at_4 rfl rfl ?_
    refine J_aload_n X 0 dX5_at_5 rfl rfl ?_
    refine J_alenI X hE1 (Int32.ofNat n1) (rfl) dX5_at_6 ?_
    refine J_icmp_ge (tgt := 16) X dX5_at_7 (by decide) (fun c7 => ?_) (fun c7 => ?_)
    · rw [if_pos c7] at hf
      refine J_const X (0 : Int32) dX5_at_16 (by decide) ?_
      cases hf
      exact J_iret X dX5_at_17
    · rw [if_neg c7] at hf
      refine J_aload_n X 0 dX5_at_10 rfl rfl ?_
      refine J_iload_n X 1 dX5_at_11 rfl rfl ?_
      obtain ⟨v1, qv1, hf⟩ := ob hf
      refine J_iald X hE1 (ald_s qv1).1 dX5_at_12 ?_
      refine J_topi v1 (ald_s qv1).2 ?_
      refine J_goto (tgt := 17) X dX5_at_13 (by decide) ?_
      cases hf
      exact J_iret X dX5_at_17
theorem hd_X5_isWalker : yX5_isWalker.cls ≠ "java/lang/invoke/MethodHandle" ∧ yX5_isWalker.cls ≠ "java/lang/invoke/VarHandle" ∧ (parseMethodDescriptor yX5_isWalker.desc).map (fun d => d.parameters.length) = some 1 := by decide +kernel
set_option maxHeartbeats 4000000 in
set_option maxRecDepth 100000 in
theorem c_X5_isWalker (l : Launch) (o : Om) (emb : Hp → va_W) (A : Nat → Prop) (hA : ∀ h : Hp, va_D A (emb h)) (x1 : Int32) (h : Hp) (r : Int32) (hf : f_X5_isWalker x1 = some r) : Ct l o emb A yX5_isWalker cX5_isWalker 1 (some .boolean) 0 0 [.int x1] h (some (.int r)) h := by
  refine Ct.of RX5 rfl (by decide +kernel) hA (Nat.le_of_ble_eq_true rfl) (fun p e s m args below meth c X => ?_)
  refine J_sub (lo' := [(0, .int x1)]) [0] rfl ?_
  rw [f_X5_isWalker] at hf
  refine J_iload_n X 0 dX5_isWalker_0 rfl rfl ?_
  refine J_if_lt (tgt := 14) X dX5_isWalker_1 (by decide) (fun c1 => ?_) (fun c1 => ?_)
  · rw [if_pos c1] at hf
    refine J_const X (0 : Int32) dX5_isWalker_14 (by decide) ?_
    cases hf
    exact J_zret X rfl dX5_isWalker_15
  · rw [if_neg c1] at hf
    refine J_iload_n X 0 dX5_isWalker_4 rfl rfl ?_
    refine J_bipush X (6 : Int32) dX5_isWalker_5 (by decide) ?_
    refine J_icmp_ge (tgt := 14) X dX5_isWalker_7 (by decide) (fun c7 => ?_) (fun c7 => ?_)
    · rw [if_pos c7] at hf
      refine J_const X (0 : Int32) dX5_isWalker_14 (by decide) ?_
      cases hf
      exact J_zret X rfl dX5_isWalker_15
    · rw [if_neg c7] at hf
      refine J_const X (1 : Int32) dX5_isWalker_10 (by decide) ?_
      refine J_goto (tgt := 15) X dX5_isWalker_11 (by decide) ?_
      cases hf
      exact J_zret X rfl dX5_isWalker_15
theorem hd_X5_isPlace : yX5_isPlace.cls ≠ "java/lang/invoke/MethodHandle" ∧ yX5_isPlace.cls ≠ "java/lang/invoke/VarHandle" ∧ (parseMethodDescriptor yX5_isPlace.desc).map (fun d => d.parameters.length) = some 1 := by decide +kernel
set_option maxHeartbeats 4000000 in
set_option maxRecDepth 100000 in
theorem c_X5_isPlace (l : Launch) (o : Om) (emb : Hp → va_W) (A : Nat → Prop) (hA : ∀ h : Hp, va_D A (emb h)) (x1 : Int32) (h : Hp) (r : Int32) (hf : f_X5_isPlace x1 = some r) : Ct l o emb A yX5_isPlace cX5_isPlace 1 (some .boolean) 0 0 [.int x1] h (some (.int r)) h := by
  refine Ct.of RX5 rfl (by decide +kernel) hA (Nat.le_of_ble_eq_true rfl) (fun p e s m args below meth c X => ?_)
  refine J_sub (lo' := [(0, .int x1)]) [0] rfl ?_
  rw [f_X5_isPlace] at hf
  refine J_iload_n X 0 dX5_isPlace_0 rfl rfl ?_
  refine J_if_lt (tgt := 14) X dX5_isPlace_1 (by decide) (fun c1 => ?_) (fun c1 => ?_)
  · rw [if_pos c1] at hf
    refine J_const X (0 : Int32) dX5_isPlace_14 (by decide) ?_
    cases hf
    exact J_zret X rfl dX5_isPlace_15
  · rw [if_neg c1] at hf
    refine J_iload_n X 0 dX5_isPlace_4 rfl rfl ?_
    refine J_bipush X (9 : Int32) dX5_isPlace_5 (by decide) ?_
    refine J_icmp_ge (tgt := 14) X dX5_isPlace_7 (by decide) (fun c7 => ?_) (fun c7 => ?_)
    · rw [if_pos c7] at hf
      refine J_const X (0 : Int32) dX5_isPlace_14 (by decide) ?_
      cases hf
      exact J_zret X rfl dX5_isPlace_15
    · rw [if_neg c7] at hf
      refine J_const X (1 : Int32) dX5_isPlace_10 (by decide) ?_
      refine J_goto (tgt := 15) X dX5_isPlace_11 (by decide) ?_
      cases hf
      exact J_zret X rfl dX5_isPlace_15
theorem hd_X5_copy : yX5_copy.cls ≠ "java/lang/invoke/MethodHandle" ∧ yX5_copy.cls ≠ "java/lang/invoke/VarHandle" ∧ (parseMethodDescriptor yX5_copy.desc).map (fun d => d.parameters.length) = some 2 := by decide +kernel
set_option maxHeartbeats 4000000 in
set_option maxRecDepth 100000 in
theorem cf_X5_copy_l2 {R : Type} (hA : ∀ h : Hp, va_D A (emb h)) (X : Cx p s m args meth c RX5 cX5_copy 3 none o) (r1 n1 : Nat) (r2 n2 : Nat) (hE1 : EI o emb r1 n1) (hE2 : EI o emb r2 n2)  {kx : Int32 → Hp → Option R} (t : R) : ∀ (n : Nat) (s2 : Int32) (h : Hp), f_X5_copy_l2 r1 n1 r2 n2 kx n s2 h = some t → (∀ (s2 : Int32) (h : Hp), kx s2 h = some t → J p l e (rmf 0 0) s m args below meth c 0 0 Z o emb A H0 3 26 [] [] h) → J p l e (rmf 0 0) s m args below meth c 0 0 Z o emb A H0 3 2 [(0, .ref (o.1 r1)), (1, .ref (o.1 r2)), (2, .int s2)] [] h := by
  intro n
  induction n with
  | zero =>
    intro s2 h hf hk
    cases hf
  | succ n ih =>
    intro s2 h hf hk
    rw [f_X5_copy_l2] at hf
    refine J_iload_n X 2 dX5_copy_2 rfl rfl ?_
    refine J_aload_n X 1 dX5_copy_3 rfl rfl ?_
    refine J_alenI X hE2 (Int32.ofNat n2) (rfl) dX5_copy_4 ?_
    refine J_icmp_ge (tgt := 26) X dX5_copy_5 (by decide) (fun c5 => ?_) (fun c5 => ?_)
    · rw [if_pos c5] at hf
      exact J_sub [] rfl (hk s2 h hf)
    · rw [if_neg c5] at hf
      refine J_iload_n X 2 dX5_copy_8 rfl rfl ?_
      refine J_aload_n X 0 dX5_copy_9 rfl rfl ?_
      refine J_alenI X hE1 (Int32.ofNat n1) (rfl) dX5_copy_10 ?_
      refine J_icmp_ge (tgt := 26) X dX5_copy_11 (by decide) (fun c11 => ?_) (fun c11 => ?_)
      · rw [if_pos c11] at hf
        exact J_sub [] rfl (hk s2 h hf)
      · rw [if_neg c11] at hf
        refine J_aload_n X 1 dX5_copy_14 rfl rfl ?_
        refine J_iload_n X 2 dX5_copy_15 rfl rfl ?_
        refine J_aload_n X 0 dX5_copy_16 rfl rfl ?_
        refine J_iload_n X 2 dX5_copy_17 rfl rfl ?_
        obtain ⟨v1, qv1, hf⟩ := ob hf
        refine J_iald X hE1 (ald_s qv1).1 dX5_copy_18 ?_
        refine J_topi v1 (ald_s qv1).2 ?_
        obtain ⟨h2, qh2, hf⟩ := ob hf
        refine J_iast X hE2 (ast_s qh2).1 dX5_copy_19 ?_
        refine J_hp h2 (ast_s qh2).2 ?_
        obtain ⟨v3, qv3, hf⟩ := ob hf
        refine J_iinc X 2 [(2, .int v3), (0, .ref (o.1 r1)), (1, .ref (o.1 r2))] dX5_copy_20 rfl (Option.some.inj qv3) (Nat.le_of_ble_eq_true rfl) rfl ?_
        refine J_goto (tgt := 2) X dX5_copy_23 (by decide) ?_
        exact J_sub [1, 2, 0] rfl (ih v3 h2 hf hk)
set_option maxHeartbeats 4000000 in
set_option maxRecDepth 100000 in
theorem c_X5_copy (l : Launch) (o : Om) (emb : Hp → va_W) (A : Nat → Prop) (hA : ∀ h : Hp, va_D A (emb h)) (r1 n1 : Nat) (r2 n2 : Nat) (hE1 : EI o emb r1 n1) (hE2 : EI o emb r2 n2) (h : Hp)  (h' : Hp) (hf : f_X5_copy r1 n1 r2 n2 h = some h') : Ct l o emb A yX5_copy cX5_copy 3 none 0 0 [.ref (o.1 r1), .ref (o.1 r2)] h none h' := by
  refine Ct.of RX5 rfl (by decide +kernel) hA (Nat.le_of_ble_eq_true rfl) (fun p e s m args below meth c X => ?_)
  refine J_sub (lo' := [(0, .ref (o.1 r1)), (1, .ref (o.1 r2))]) [0, 1] rfl ?_
  rw [f_X5_copy] at hf
  refine J_const X (0 : Int32) dX5_copy_0 (by decide) ?_
  refine J_istore_n X [(2, .int (0 : Int32)), (0, .ref (o.1 r1)), (1, .ref (o.1 r2))] dX5_copy_1 rfl (Nat.le_of_ble_eq_true rfl) rfl ?_
  refine J_sub (lo' := [(0, .ref (o.1 r1)), (1, .ref (o.1 r2)), (2, .int (0 : Int32))]) [1, 2, 0] rfl ?_
  refine cf_X5_copy_l2 hA X r1 n1 r2 n2 hE1 hE2  _ _ (0 : Int32) h hf (fun w4 h5 hf => ?_)
  cases hf
  exact J_vret X dX5_copy_26
theorem hd_X5_areTwoPlaces : yX5_areTwoPlaces.cls ≠ "java/lang/invoke/MethodHandle" ∧ yX5_areTwoPlaces.cls ≠ "java/lang/invoke/VarHandle" ∧ (parseMethodDescriptor yX5_areTwoPlaces.desc).map (fun d => d.parameters.length) = some 2 := by decide +kernel
set_option maxHeartbeats 4000000 in
set_option maxRecDepth 100000 in
theorem c_X5_areTwoPlaces (l : Launch) (o : Om) (emb : Hp → va_W) (A : Nat → Prop) (hA : ∀ h : Hp, va_D A (emb h)) (x1 : Int32) (x2 : Int32) (h : Hp) (r : Int32) (hf : f_X5_areTwoPlaces x1 x2 = some r) : Ct l o emb A yX5_areTwoPlaces cX5_areTwoPlaces 2 (some .boolean) 0 0 [.int x1, .int x2] h (some (.int r)) h := by
  refine Ct.of RX5 rfl (by decide +kernel) hA (Nat.le_of_ble_eq_true rfl) (fun p e s m args below meth c X => ?_)
  refine J_sub (lo' := [(0, .int x1), (1, .int x2)]) [0, 1] rfl ?_
  rw [f_X5_areTwoPlaces] at hf
  refine J_iload_n X 0 dX5_areTwoPlaces_0 rfl rfl ?_
  refine J_if_lt (tgt := 29) X dX5_areTwoPlaces_1 (by decide) (fun c1 => ?_) (fun c1 => ?_)
  · rw [if_pos c1] at hf
    refine J_const X (0 : Int32) dX5_areTwoPlaces_29 (by decide) ?_
    cases hf
    exact J_zret X rfl dX5_areTwoPlaces_30
  · rw [if_neg c1] at hf
    refine J_iload_n X 0 dX5_areTwoPlaces_4 rfl rfl ?_
    refine J_bipush X (9 : Int32) dX5_areTwoPlaces_5 (by decide) ?_
    refine J_icmp_ge (tgt := 29) X dX5_areTwoPlaces_7 (by decide) (fun c7 => ?_) (fun c7 => ?_)
    · rw [if_pos c7] at hf
      refine J_const X (0 : Int32) dX5_areTwoPlaces_29 (by decide) ?_
      cases hf
      exact J_zret X rfl dX5_areTwoPlaces_30
    · rw [if_neg c7] at hf
      refine J_iload_n X 1 dX5_areTwoPlaces_10 rfl rfl ?_
      refine J_if_lt (tgt := 29) X dX5_areTwoPlaces_11 (by decide) (fun c11 => ?_) (fun c11 => ?_)
      · rw [if_pos c11] at hf
        refine J_const X (0 : Int32) dX5_areTwoPlaces_29 (by decide) ?_
        cases hf
        exact J_zret X rfl dX5_areTwoPlaces_30
      · rw [if_neg c11] at hf
        refine J_iload_n X 1 dX5_areTwoPlaces_14 rfl rfl ?_
        refine J_bipush X (9 : Int32) dX5_areTwoPlaces_15 (by decide) ?_
        refine J_icmp_ge (tgt := 29) X dX5_areTwoPlaces_17 (by decide) (fun c17 => ?_) (fun c17 => ?_)
        · rw [if_pos c17] at hf
          refine J_const X (0 : Int32) dX5_areTwoPlaces_29 (by decide) ?_
          cases hf
          exact J_zret X rfl dX5_areTwoPlaces_30
        · rw [if_neg c17] at hf
          refine J_iload_n X 0 dX5_areTwoPlaces_20 rfl rfl ?_
          refine J_iload_n X 1 dX5_areTwoPlaces_21 rfl rfl ?_
          refine J_icmp_eq (tgt := 29) X dX5_areTwoPlaces_22 (by decide) (fun c22 => ?_) (fun c22 => ?_)
          · rw [if_pos c22] at hf
            refine J_const X (0 : Int32) dX5_areTwoPlaces_29 (by decide) ?_
            cases hf
            exact J_zret X rfl dX5_areTwoPlaces_30
          · rw [if_neg c22] at hf
            refine J_const X (1 : Int32) dX5_areTwoPlaces_25 (by decide) ?_
            refine J_goto (tgt := 30) X dX5_areTwoPlaces_26 (by decide) ?_
            cases hf
            exact J_zret X rfl dX5_areTwoPlaces_30
theorem hd_X5_within : yX5_within.cls ≠ "java/lang/invoke/MethodHandle" ∧ yX5_within.cls ≠ "java/lang/invoke/VarHandle" ∧ (parseMethodDescriptor yX5_within.desc).map (fun d => d.parameters.length) = some 3 := by decide +kernel
set_option maxHeartbeats 4000000 in
set_option maxRecDepth 100000 in
theorem c_X5_within (l : Launch) (o : Om) (emb : Hp → va_W) (A : Nat → Prop) (hA : ∀ h : Hp, va_D A (emb h)) (x1 : Int32) (x2 : Int32) (x3 : Int32) (h : Hp) (r : Int32) (hf : f_X5_within x1 x2 x3 = some r) : Ct l o emb A yX5_within cX5_within 3 (some .boolean) 0 0 [.int x1, .int x2, .int x3] h (some (.int r)) h := by
  refine Ct.of RX5 rfl (by decide +kernel) hA (Nat.le_of_ble_eq_true rfl) (fun p e s m args below meth c X => ?_)
  refine J_sub (lo' := [(0, .int x1), (1, .int x2), (2, .int x3)]) [0, 1, 2] rfl ?_
  rw [f_X5_within] at hf
  refine J_iload_n X 0 dX5_within_0 rfl rfl ?_
  refine J_iload_n X 1 dX5_within_1 rfl rfl ?_
  refine J_icmp_lt (tgt := 14) X dX5_within_2 (by decide) (fun c2 => ?_) (fun c2 => ?_)
  · rw [if_pos c2] at hf
    refine J_const X (0 : Int32) dX5_within_14 (by decide) ?_
    cases hf
    exact J_zret X rfl dX5_within_15
  · rw [if_neg c2] at hf
    refine J_iload_n X 0 dX5_within_5 rfl rfl ?_
    refine J_iload_n X 2 dX5_within_6 rfl rfl ?_
    refine J_icmp_gt (tgt := 14) X dX5_within_7 (by decide) (fun c7 => ?_) (fun c7 => ?_)
    · rw [if_pos c7] at hf
      refine J_const X (0 : Int32) dX5_within_14 (by decide) ?_
      cases hf
      exact J_zret X rfl dX5_within_15
    · rw [if_neg c7] at hf
      refine J_const X (1 : Int32) dX5_within_10 (by decide) ?_
      refine J_goto (tgt := 15) X dX5_within_11 (by decide) ?_
      cases hf
      exact J_zret X rfl dX5_within_15
theorem hd_J6_bitCount_0f7a4 : yJ6_bitCount_0f7a4.cls ≠ "java/lang/invoke/MethodHandle" ∧ yJ6_bitCount_0f7a4.cls ≠ "java/lang/invoke/VarHandle" ∧ (parseMethodDescriptor yJ6_bitCount_0f7a4.desc).map (fun d => d.parameters.length) = some 1 := by decide +kernel
set_option maxHeartbeats 4000000 in
set_option maxRecDepth 100000 in
theorem c_J6_bitCount_0f7a4 (l : Launch) (o : Om) (emb : Hp → va_W) (A : Nat → Prop) (hA : ∀ h : Hp, va_D A (emb h)) (x1 : Int32) (h : Hp) (r : Int32) (hf : f_J6_bitCount_0f7a4 x1 = some r) : Ct l o emb A yJ6_bitCount_0f7a4 cJ6_bitCount_0f7a4 1 (some .int) 0 0 [.int x1] h (some (.int r)) h := by
  refine Ct.of RJ6 rfl (by decide +kernel) hA (Nat.le_of_ble_eq_true rfl) (fun p e s m args below meth c X => ?_)
  refine J_sub (lo' := [(0, .int x1)]) [0] rfl ?_
  rw [f_J6_bitCount_0f7a4] at hf
  refine J_iload_n X 0 dJ6_bitCount_0f7a4_0 rfl rfl ?_
  refine J_iload_n X 0 dJ6_bitCount_0f7a4_1 rfl rfl ?_
  refine J_const X (1 : Int32) dJ6_bitCount_0f7a4_2 (by decide) ?_
  refine J_iushr X dJ6_bitCount_0f7a4_3 ?_
  refine J_ldcw X wd_260 dJ6_bitCount_0f7a4_4 ?_
  refine J_iand X dJ6_bitCount_0f7a4_7 ?_
  refine J_isub X dJ6_bitCount_0f7a4_8 ?_
  obtain ⟨v1, qv1, hf⟩ := ob hf
  refine J_topi v1 (Option.some.inj qv1) ?_
  refine J_istore_n X [(0, .int v1)] dJ6_bitCount_0f7a4_9 rfl (Nat.le_of_ble_eq_true rfl) rfl ?_
  refine J_iload_n X 0 dJ6_bitCount_0f7a4_10 rfl rfl ?_
  refine J_ldcw X wd_261 dJ6_bitCount_0f7a4_11 ?_
  refine J_iand X dJ6_bitCount_0f7a4_14 ?_
  refine J_iload_n X 0 dJ6_bitCount_0f7a4_15 rfl rfl ?_
  refine J_const X (2 : Int32) dJ6_bitCount_0f7a4_16 (by decide) ?_
  refine J_iushr X dJ6_bitCount_0f7a4_17 ?_
  refine J_ldcw X wd_261 dJ6_bitCount_0f7a4_18 ?_
  refine J_iand X dJ6_bitCount_0f7a4_21 ?_
  refine J_iadd X dJ6_bitCount_0f7a4_22 ?_
  obtain ⟨v2, qv2, hf⟩ := ob hf
  refine J_topi v2 (Option.some.inj qv2) ?_
  refine J_istore_n X [(0, .int v2)] dJ6_bitCount_0f7a4_23 rfl (Nat.le_of_ble_eq_true rfl) rfl ?_
  refine J_iload_n X 0 dJ6_bitCount_0f7a4_24 rfl rfl ?_
  refine J_iload_n X 0 dJ6_bitCount_0f7a4_25 rfl rfl ?_
  refine J_const X (4 : Int32) dJ6_bitCount_0f7a4_26 (by decide) ?_
  refine J_iushr X dJ6_bitCount_0f7a4_27 ?_
  refine J_iadd X dJ6_bitCount_0f7a4_28 ?_
  refine J_ldcw X wd_262 dJ6_bitCount_0f7a4_29 ?_
  refine J_iand X dJ6_bitCount_0f7a4_32 ?_
  obtain ⟨v3, qv3, hf⟩ := ob hf
  refine J_topi v3 (Option.some.inj qv3) ?_
  refine J_istore_n X [(0, .int v3)] dJ6_bitCount_0f7a4_33 rfl (Nat.le_of_ble_eq_true rfl) rfl ?_
  refine J_iload_n X 0 dJ6_bitCount_0f7a4_34 rfl rfl ?_
  refine J_iload_n X 0 dJ6_bitCount_0f7a4_35 rfl rfl ?_
  refine J_bipush X (8 : Int32) dJ6_bitCount_0f7a4_36 (by decide) ?_
  refine J_iushr X dJ6_bitCount_0f7a4_38 ?_
  refine J_iadd X dJ6_bitCount_0f7a4_39 ?_
  obtain ⟨v4, qv4, hf⟩ := ob hf
  refine J_topi v4 (Option.some.inj qv4) ?_
  refine J_istore_n X [(0, .int v4)] dJ6_bitCount_0f7a4_40 rfl (Nat.le_of_ble_eq_true rfl) rfl ?_
  refine J_iload_n X 0 dJ6_bitCount_0f7a4_41 rfl rfl ?_
  refine J_iload_n X 0 dJ6_bitCount_0f7a4_42 rfl rfl ?_
  refine J_bipush X (16 : Int32) dJ6_bitCount_0f7a4_43 (by decide) ?_
  refine J_iushr X dJ6_bitCount_0f7a4_45 ?_
  refine J_iadd X dJ6_bitCount_0f7a4_46 ?_
  obtain ⟨v5, qv5, hf⟩ := ob hf
  refine J_topi v5 (Option.some.inj qv5) ?_
  refine J_istore_n X [(0, .int v5)] dJ6_bitCount_0f7a4_47 rfl (Nat.le_of_ble_eq_true rfl) rfl ?_
  refine J_iload_n X 0 dJ6_bitCount_0f7a4_48 rfl rfl ?_
  refine J_bipush X (63 : Int32) dJ6_bitCount_0f7a4_49 (by decide) ?_
  refine J_iand X dJ6_bitCount_0f7a4_51 ?_
  cases hf
  exact J_iret X dJ6_bitCount_0f7a4_52
theorem hd_X5_holds : yX5_holds.cls ≠ "java/lang/invoke/MethodHandle" ∧ yX5_holds.cls ≠ "java/lang/invoke/VarHandle" ∧ (parseMethodDescriptor yX5_holds.desc).map (fun d => d.parameters.length) = some 2 := by decide +kernel
set_option maxHeartbeats 4000000 in
set_option maxRecDepth 100000 in
theorem c_X5_holds (l : Launch) (o : Om) (emb : Hp → va_W) (A : Nat → Prop) (hA : ∀ h : Hp, va_D A (emb h)) (x1 : Int32) (x2 : Int32) (h : Hp) (r : Int32) (hf : f_X5_holds x1 x2 = some r) : Ct l o emb A yX5_holds cX5_holds 2 (some .boolean) 0 0 [.int x1, .int x2] h (some (.int r)) h := by
  refine Ct.of RX5 rfl (by decide +kernel) hA (Nat.le_of_ble_eq_true rfl) (fun p e s m args below meth c X => ?_)
  refine J_sub (lo' := [(0, .int x1), (1, .int x2)]) [0, 1] rfl ?_
  rw [f_X5_holds] at hf
  refine J_iload_n X 0 dX5_holds_0 rfl rfl ?_
  refine J_iload_n X 1 dX5_holds_1 rfl rfl ?_
  refine J_ishr X dX5_holds_2 ?_
  refine J_const X (1 : Int32) dX5_holds_3 (by decide) ?_
  refine J_iand X dX5_holds_4 ?_
  refine J_const X (1 : Int32) dX5_holds_5 (by decide) ?_
  refine J_icmp_ne (tgt := 13) X dX5_holds_6 (by decide) (fun c6 => ?_) (fun c6 => ?_)
  · rw [if_neg c6] at hf
    refine J_const X (0 : Int32) dX5_holds_13 (by decide) ?_
    cases hf
    exact J_zret X rfl dX5_holds_14
  · rw [if_pos c6] at hf
    refine J_const X (1 : Int32) dX5_holds_9 (by decide) ?_
    refine J_goto (tgt := 14) X dX5_holds_10 (by decide) ?_
    cases hf
    exact J_zret X rfl dX5_holds_14
theorem hd_X5_nameOfRoad : yX5_nameOfRoad.cls ≠ "java/lang/invoke/MethodHandle" ∧ yX5_nameOfRoad.cls ≠ "java/lang/invoke/VarHandle" ∧ (parseMethodDescriptor yX5_nameOfRoad.desc).map (fun d => d.parameters.length) = some 2 := by decide +kernel
set_option maxHeartbeats 4000000 in
set_option maxRecDepth 100000 in
theorem c_X5_nameOfRoad (l : Launch) (o : Om) (emb : Hp → va_W) (A : Nat → Prop) (hA : ∀ h : Hp, va_D A (emb h)) (x1 : Int32) (x2 : Int32) (h : Hp) (r : Int32) (hf : f_X5_nameOfRoad x1 x2 = some r) : Ct l o emb A yX5_nameOfRoad cX5_nameOfRoad 2 (some .int) 1 14 [.int x1, .int x2] h (some (.int r)) h := by
  refine Ct.of RX5 rfl (by decide +kernel) hA (Nat.le_of_ble_eq_true rfl) (fun p e s m args below meth c X => ?_)
  refine J_sub (lo' := [(0, .int x1), (1, .int x2)]) [0, 1] rfl ?_
  rw [f_X5_nameOfRoad] at hf
  refine J_bipush X (10 : Int32) dX5_nameOfRoad_0 (by decide) ?_
  refine J_iload_n X 0 dX5_nameOfRoad_2 rfl rfl ?_
  refine J_iload_n X 1 dX5_nameOfRoad_3 rfl rfl ?_
  refine J_mmin X wd_352 wd_353 wd_43 wd_354 ⟨Nat.le_of_ble_eq_true rfl, Nat.le_of_ble_eq_true rfl, Nat.zero_le _, Nat.zero_le _⟩ dX5_nameOfRoad_4 ?_
  refine J_imul X dX5_nameOfRoad_7 ?_
  refine J_iload_n X 0 dX5_nameOfRoad_8 rfl rfl ?_
  refine J_iload_n X 1 dX5_nameOfRoad_9 rfl rfl ?_
  refine J_mmax X wd_355 wd_356 wd_43 wd_357 ⟨Nat.le_of_ble_eq_true rfl, Nat.le_of_ble_eq_true rfl, Nat.zero_le _, Nat.zero_le _⟩ dX5_nameOfRoad_10 ?_
  refine J_iadd X dX5_nameOfRoad_13 ?_
  cases hf
  exact J_iret X dX5_nameOfRoad_14
theorem hd_X5_reading : yX5_reading.cls ≠ "java/lang/invoke/MethodHandle" ∧ yX5_reading.cls ≠ "java/lang/invoke/VarHandle" ∧ (parseMethodDescriptor yX5_reading.desc).map (fun d => d.parameters.length) = some 3 := by decide +kernel
set_option maxHeartbeats 4000000 in
set_option maxRecDepth 100000 in
theorem c_X5_reading (l : Launch) (o : Om) (emb : Hp → va_W) (A : Nat → Prop) (hA : ∀ h : Hp, va_D A (emb h)) (x1 : Int32) (x2 : Int32) (x3 : Int32) (h : Hp) (r : Int32) (hf : f_X5_reading x1 x2 x3 = some r) : Ct l o emb A yX5_reading cX5_reading 6 (some .int) 0 0 [.int x1, .int x2, .int x3] h (some (.int r)) h := by
  refine Ct.of RX5 rfl (by decide +kernel) hA (Nat.le_of_ble_eq_true rfl) (fun p e s m args below meth c X => ?_)
  refine J_sub (lo' := [(0, .int x1), (1, .int x2), (2, .int x3)]) [0, 1, 2] rfl ?_
  rw [f_X5_reading] at hf
  refine J_iload_n X 2 dX5_reading_0 rfl rfl ?_
  refine J_bipush X (100 : Int32) dX5_reading_1 (by decide) ?_
  refine J_idiv X dX5_reading_3 (by decide) ?_
  obtain ⟨v1, qv1, hf⟩ := ob hf
  refine J_topi v1 (Option.some.inj qv1) ?_
  refine J_istore_n X [(3, .int v1), (0, .int x1), (1, .int x2), (2, .int x3)] dX5_reading_4 rfl (Nat.le_of_ble_eq_true rfl) rfl ?_
  refine J_iload_n X 3 dX5_reading_5 rfl rfl ?_
  refine J_bipush X (10 : Int32) dX5_reading_6 (by decide) ?_
  refine J_idiv X dX5_reading_8 (by decide) ?_
  refine J_bipush X (10 : Int32) dX5_reading_9 (by decide) ?_
  refine J_irem X dX5_reading_11 (by decide) ?_
  obtain ⟨v2, qv2, hf⟩ := ob hf
  refine J_topi v2 (Option.some.inj qv2) ?_
  refine J_istore X [(4, .int v2), (3, .int v1), (0, .int x1), (1, .int x2), (2, .int x3)] dX5_reading_12 (Nat.le_of_ble_eq_true rfl) rfl ?_
  refine J_iload_n X 4 dX5_reading_14 rfl rfl ?_
  refine J_bipush X (10 : Int32) dX5_reading_15 (by decide) ?_
  refine J_irem X dX5_reading_17 (by decide) ?_
  obtain ⟨v3, qv3, hf⟩ := ob hf
  refine J_topi v3 (Option.some.inj qv3) ?_
  refine J_istore X [(5, .int v3), (4, .int v2), (3, .int v1), (0, .int x1), (1, .int x2), (2, .int x3)] dX5_reading_18 (Nat.le_of_ble_eq_true rfl) rfl ?_
  refine J_iload_n X 3 dX5_reading_20 rfl rfl ?_
  refine J_const X (1 : Int32) dX5_reading_21 (by decide) ?_
  refine J_icmp_ne (tgt := 35) X dX5_reading_22 (by decide) (fun c22 => ?_) (fun c22 => ?_)
  · rw [if_neg c22] at hf
    refine J_iload_n X 2 dX5_reading_35 rfl rfl ?_
    refine J_iload_n X 4 dX5_reading_36 rfl rfl ?_
    refine J_iload X 1 dX5_reading_37 rfl ?_
    refine J_const X (2 : Int32) dX5_reading_39 (by decide) ?_
    refine J_iload X 0 dX5_reading_40 rfl ?_
    refine J_imul X dX5_reading_42 ?_
    refine J_iadd X dX5_reading_43 ?_
    refine J_imul X dX5_reading_44 ?_
    refine J_iadd X dX5_reading_45 ?_
    cases hf
    exact J_iret X dX5_reading_46
  · rw [if_pos c22] at hf
    refine J_iload_n X 4 dX5_reading_25 rfl rfl ?_
    refine J_iload X 1 dX5_reading_26 rfl ?_
    refine J_iload X 0 dX5_reading_28 rfl ?_
    refine J_iadd X dX5_reading_30 ?_
    refine J_imul X dX5_reading_31 ?_
    refine J_goto (tgt := 46) X dX5_reading_32 (by decide) ?_
    cases hf
    exact J_iret X dX5_reading_46
theorem hd_J7_fill_53178 : yJ7_fill_53178.cls ≠ "java/lang/invoke/MethodHandle" ∧ yJ7_fill_53178.cls ≠ "java/lang/invoke/VarHandle" ∧ (parseMethodDescriptor yJ7_fill_53178.desc).map (fun d => d.parameters.length) = some 2 := by decide +kernel
set_option maxHeartbeats 4000000 in
set_option maxRecDepth 100000 in
theorem cf_J7_fill_53178_l5 {R : Type} (hA : ∀ h : Hp, va_D A (emb h)) (X : Cx p s m args meth c RJ7 cJ7_fill_53178 4 none o) (r1 n1 : Nat) (hE1 : EI o emb r1 n1) (s1 : Int32) (s3 : Int32) {kx : Int32 → Hp → Option R} (t : R) : ∀ (n : Nat) (s2 : Int32) (h : Hp), f_J7_fill_53178_l5 r1 n1 s1 s3 kx n s2 h = some t → (∀ (s2 : Int32) (h : Hp), kx s2 h = some t → J p l e (rmf 0 0) s m args below meth c 0 0 Z o emb A H0 4 20 [] [] h) → J p l e (rmf 0 0) s m args below meth c 0 0 Z o emb A H0 4 5 [(0, .ref (o.1 r1)), (1, .int s1), (2, .int s2), (3, .int s3)] [] h := by
  intro n
  induction n with
  | zero =>
    intro s2 h hf hk
    cases hf
  | succ n ih =>
    intro s2 h hf hk
    rw [f_J7_fill_53178_l5] at hf
    refine J_iload_n X 2 dJ7_fill_53178_5 rfl rfl ?_
    refine J_iload_n X 3 dJ7_fill_53178_6 rfl rfl ?_
    refine J_icmp_ge (tgt := 20) X dJ7_fill_53178_7 (by decide) (fun c7 => ?_) (fun c7 => ?_)
    · rw [if_pos c7] at hf
      exact J_sub [] rfl (hk s2 h hf)
    · rw [if_neg c7] at hf
      refine J_aload_n X 0 dJ7_fill_53178_10 rfl rfl ?_
      refine J_iload_n X 2 dJ7_fill_53178_11 rfl rfl ?_
      refine J_iload_n X 1 dJ7_fill_53178_12 rfl rfl ?_
      obtain ⟨h2, qh2, hf⟩ := ob hf
      refine J_iast X hE1 (ast_s qh2).1 dJ7_fill_53178_13 ?_
      refine J_hp h2 (ast_s qh2).2 ?_
      obtain ⟨v3, qv3, hf⟩ := ob hf
      refine J_iinc X 2 [(2, .int v3), (0, .ref (o.1 r1)), (1, .int s1), (3, .int s3)] dJ7_fill_53178_14 rfl (Option.some.inj qv3) (Nat.le_of_ble_eq_true rfl) rfl ?_
      refine J_goto (tgt := 5) X dJ7_fill_53178_17 (by decide) ?_
      exact J_sub [1, 2, 0, 3] rfl (ih v3 h2 hf hk)
set_option maxHeartbeats 4000000 in
set_option maxRecDepth 100000 in
theorem c_J7_fill_53178 (l : Launch) (o : Om) (emb : Hp → va_W) (A : Nat → Prop) (hA : ∀ h : Hp, va_D A (emb h)) (r1 n1 : Nat) (hE1 : EI o emb r1 n1) (x2 : Int32) (h : Hp)  (h' : Hp) (hf : f_J7_fill_53178 r1 n1 x2 h = some h') : Ct l o emb A yJ7_fill_53178 cJ7_fill_53178 4 none 0 0 [.ref (o.1 r1), .int x2] h none h' := by
  refine Ct.of RJ7 rfl (by decide +kernel) hA (Nat.le_of_ble_eq_true rfl) (fun p e s m args below meth c X => ?_)
  refine J_sub (lo' := [(0, .ref (o.1 r1)), (1, .int x2)]) [0, 1] rfl ?_
  rw [f_J7_fill_53178] at hf
  refine J_const X (0 : Int32) dJ7_fill_53178_0 (by decide) ?_
  refine J_istore_n X [(2, .int (0 : Int32)), (0, .ref (o.1 r1)), (1, .int x2)] dJ7_fill_53178_1 rfl (Nat.le_of_ble_eq_true rfl) rfl ?_
  refine J_aload_n X 1 dJ7_fill_53178_2 rfl rfl ?_
  refine J_alenI X hE1 (Int32.ofNat n1) (rfl) dJ7_fill_53178_3 ?_
  obtain ⟨v1, qv1, hf⟩ := ob hf
  refine J_topi v1 (Option.some.inj qv1) ?_
  refine J_istore_n X [(3, .int v1), (2, .int (0 : Int32)), (0, .ref (o.1 r1)), (1, .int x2)] dJ7_fill_53178_4 rfl (Nat.le_of_ble_eq_true rfl) rfl ?_
  refine J_sub (lo' := [(0, .ref (o.1 r1)), (1, .int x2), (2, .int (0 : Int32)), (3, .int v1)]) [2, 3, 1, 0] rfl ?_
  refine cf_J7_fill_53178_l5 hA X r1 n1 hE1 x2 v1 _ _ (0 : Int32) h hf (fun w4 h5 hf => ?_)
  cases hf
  exact J_vret X dJ7_fill_53178_20
theorem hd_X5_powerOfTen : yX5_powerOfTen.cls ≠ "java/lang/invoke/MethodHandle" ∧ yX5_powerOfTen.cls ≠ "java/lang/invoke/VarHandle" ∧ (parseMethodDescriptor yX5_powerOfTen.desc).map (fun d => d.parameters.length) = some 1 := by decide +kernel
set_option maxHeartbeats 4000000 in
set_option maxRecDepth 100000 in
theorem cf_X5_powerOfTen_l4 {R : Type} (hA : ∀ h : Hp, va_D A (emb h)) (X : Cx p s m args meth c RX5 cX5_powerOfTen 4 (some .long) o)   (s0 : Int32) (h0 : Hp) {kx : Int64 → Int32 → Option R} (t : R) : ∀ (n : Nat) (s1 : Int64) (s3 : Int32), f_X5_powerOfTen_l4 s0 kx n s1 s3 = some t → (∀ (s1 : Int64) (s3 : Int32), kx s1 s3 = some t → J p l e (rmf 0 0) s m args below meth c 0 0 Z o emb A H0 4 21 [(1, .long s1)] [] h0) → J p l e (rmf 0 0) s m args below meth c 0 0 Z o emb A H0 4 4 [(0, .int s0), (1, .long s1), (3, .int s3)] [] h0 := by
  intro n
  induction n with
  | zero =>
    intro s1 s3 hf hk
    cases hf
  | succ n ih =>
    intro s1 s3 hf hk
    rw [f_X5_powerOfTen_l4] at hf
    refine J_iload_n X 2 dX5_powerOfTen_4 rfl rfl ?_
    refine J_iload_n X 0 dX5_powerOfTen_5 rfl rfl ?_
    refine J_icmp_ge (tgt := 21) X dX5_powerOfTen_6 (by decide) (fun c6 => ?_) (fun c6 => ?_)
    · rw [if_pos c6] at hf
      exact J_sub [1] rfl (hk s1 s3 hf)
    · rw [if_neg c6] at hf
      refine J_lload_n X 1 dX5_powerOfTen_9 rfl rfl ?_
      refine J_ldc2 X wd_466 dX5_powerOfTen_10 ?_
      refine J_lmul X dX5_powerOfTen_13 ?_
      obtain ⟨v1, qv1, hf⟩ := ob hf
      refine J_topl v1 (Option.some.inj qv1) ?_
      refine J_lstore_n X [(1, .long v1), (0, .int s0), (3, .int s3)] dX5_powerOfTen_14 rfl (Nat.le_of_ble_eq_true rfl) rfl ?_
      obtain ⟨v2, qv2, hf⟩ := ob hf
      refine J_iinc X 2 [(3, .int v2), (1, .long v1), (0, .int s0)] dX5_powerOfTen_15 rfl (Option.some.inj qv2) (Nat.le_of_ble_eq_true rfl) rfl ?_
      refine J_goto (tgt := 4) X dX5_powerOfTen_18 (by decide) ?_
      exact J_sub [2, 1, 0] rfl (ih v1 v2 hf hk)
set_option maxHeartbeats 4000000 in
set_option maxRecDepth 100000 in
theorem c_X5_powerOfTen (l : Launch) (o : Om) (emb : Hp → va_W) (A : Nat → Prop) (hA : ∀ h : Hp, va_D A (emb h)) (x1 : Int32) (h : Hp) (r : Int64) (hf : f_X5_powerOfTen x1 = some r) : Ct l o emb A yX5_powerOfTen cX5_powerOfTen 4 (some .long) 0 0 [.int x1] h (some (.long r)) h := by
  refine Ct.of RX5 rfl (by decide +kernel) hA (Nat.le_of_ble_eq_true rfl) (fun p e s m args below meth c X => ?_)
  refine J_sub (lo' := [(0, .int x1)]) [0] rfl ?_
  rw [f_X5_powerOfTen] at hf
  refine J_lconst X (1 : Int64) dX5_powerOfTen_0 (by decide) ?_
  refine J_lstore_n X [(1, .long (1 : Int64)), (0, .int x1)] dX5_powerOfTen_1 rfl (Nat.le_of_ble_eq_true rfl) rfl ?_
  refine J_const X (0 : Int32) dX5_powerOfTen_2 (by decide) ?_
  refine J_istore_n X [(3, .int (0 : Int32)), (1, .long (1 : Int64)), (0, .int x1)] dX5_powerOfTen_3 rfl (Nat.le_of_ble_eq_true rfl) rfl ?_
  refine J_sub (lo' := [(0, .int x1), (1, .long (1 : Int64)), (3, .int (0 : Int32))]) [2, 1, 0] rfl ?_
  refine cf_X5_powerOfTen_l4 hA X   x1 h _ _ (1 : Int64) (0 : Int32) hf (fun w3 w4 hf => ?_)
  refine J_lload_n X 0 dX5_powerOfTen_21 rfl rfl ?_
  cases hf
  exact J_lret X dX5_powerOfTen_22
theorem hd_X5_digit : yX5_digit.cls ≠ "java/lang/invoke/MethodHandle" ∧ yX5_digit.cls ≠ "java/lang/invoke/VarHandle" ∧ (parseMethodDescriptor yX5_digit.desc).map (fun d => d.parameters.length) = some 2 := by decide +kernel
set_option maxHeartbeats 4000000 in
set_option maxRecDepth 100000 in
theorem cf_X5_digit_l4 {R : Type} (hA : ∀ h : Hp, va_D A (emb h)) (X : Cx p s m args meth c RX5 cX5_digit 4 (some .int) o)   (s1 : Int32) (h0 : Hp) {kx : Int32 → Int32 → Option R} (t : R) : ∀ (n : Nat) (s2 : Int32) (s3 : Int32), f_X5_digit_l4 s1 kx n s2 s3 = some t → (∀ (s2 : Int32) (s3 : Int32), kx s2 s3 = some t → J p l e (rmf 0 0) s m args below meth c 0 0 Z o emb A H0 4 20 [(2, .int s2)] [] h0) → J p l e (rmf 0 0) s m args below meth c 0 0 Z o emb A H0 4 4 [(1, .int s1), (2, .int s2), (3, .int s3)] [] h0 := by
  intro n
  induction n with
  | zero =>
    intro s2 s3 hf hk
    cases hf
  | succ n ih =>
    intro s2 s3 hf hk
    rw [f_X5_digit_l4] at hf
    refine J_iload_n X 2 dX5_digit_4 rfl rfl ?_
    refine J_iload_n X 0 dX5_digit_5 rfl rfl ?_
    refine J_icmp_ge (tgt := 20) X dX5_digit_6 (by decide) (fun c6 => ?_) (fun c6 => ?_)
    · rw [if_pos c6] at hf
      exact J_sub [1] rfl (hk s2 s3 hf)
    · rw [if_neg c6] at hf
      refine J_iload_n X 1 dX5_digit_9 rfl rfl ?_
      refine J_bipush X (10 : Int32) dX5_digit_10 (by decide) ?_
      refine J_idiv X dX5_digit_12 (by decide) ?_
      obtain ⟨v1, qv1, hf⟩ := ob hf
      refine J_topi v1 (Option.some.inj qv1) ?_
      refine J_istore_n X [(2, .int v1), (1, .int s1), (3, .int s3)] dX5_digit_13 rfl (Nat.le_of_ble_eq_true rfl) rfl ?_
      obtain ⟨v2, qv2, hf⟩ := ob hf
      refine J_iinc X 2 [(3, .int v2), (2, .int v1), (1, .int s1)] dX5_digit_14 rfl (Option.some.inj qv2) (Nat.le_of_ble_eq_true rfl) rfl ?_
      refine J_goto (tgt := 4) X dX5_digit_17 (by decide) ?_
      exact J_sub [2, 1, 0] rfl (ih v1 v2 hf hk)
set_option maxHeartbeats 4000000 in
set_option maxRecDepth 100000 in
theorem c_X5_digit (l : Launch) (o : Om) (emb : Hp → va_W) (A : Nat → Prop) (hA : ∀ h : Hp, va_D A (emb h)) (x1 : Int32) (x2 : Int32) (h : Hp) (r : Int32) (hf : f_X5_digit x1 x2 = some r) : Ct l o emb A yX5_digit cX5_digit 4 (some .int) 0 0 [.int x1, .int x2] h (some (.int r)) h := by
  refine Ct.of RX5 rfl (by decide +kernel) hA (Nat.le_of_ble_eq_true rfl) (fun p e s m args below meth c X => ?_)
  refine J_sub (lo' := [(0, .int x1), (1, .int x2)]) [0, 1] rfl ?_
  rw [f_X5_digit] at hf
  refine J_iload_n X 0 dX5_digit_0 rfl rfl ?_
  refine J_istore_n X [(2, .int x1), (0, .int x1), (1, .int x2)] dX5_digit_1 rfl (Nat.le_of_ble_eq_true rfl) rfl ?_
  refine J_const X (0 : Int32) dX5_digit_2 (by decide) ?_
  refine J_istore_n X [(3, .int (0 : Int32)), (2, .int x1), (0, .int x1), (1, .int x2)] dX5_digit_3 rfl (Nat.le_of_ble_eq_true rfl) rfl ?_
  refine J_sub (lo' := [(1, .int x2), (2, .int x1), (3, .int (0 : Int32))]) [3, 1, 0] rfl ?_
  refine cf_X5_digit_l4 hA X   x2 h _ _ x1 (0 : Int32) hf (fun w3 w4 hf => ?_)
  refine J_iload_n X 0 dX5_digit_20 rfl rfl ?_
  refine J_bipush X (10 : Int32) dX5_digit_21 (by decide) ?_
  refine J_irem X dX5_digit_23 (by decide) ?_
  cases hf
  exact J_iret X dX5_digit_24
theorem hd_X5_hasDigits : yX5_hasDigits.cls ≠ "java/lang/invoke/MethodHandle" ∧ yX5_hasDigits.cls ≠ "java/lang/invoke/VarHandle" ∧ (parseMethodDescriptor yX5_hasDigits.desc).map (fun d => d.parameters.length) = some 2 := by decide +kernel
set_option maxHeartbeats 4000000 in
set_option maxRecDepth 100000 in
theorem cf_X5_hasDigits_l18 (hA : ∀ h : Hp, va_D A (emb h)) (X : Cx p s m args meth c RX5 cX5_hasDigits 3 (some .boolean) o)   (s0 : Int32) (s1 : Int32) (h0 : Hp) {kx : Int32 → Option Int32} (r : Int32) : ∀ (n : Nat) (s2 : Int32), f_X5_hasDigits_l18 s0 s1 kx n s2 = some r → (∀ (s2 : Int32), kx s2 = some r → J p l e (rmf 1 23) s m args below meth c 0 0 (MQ below (WdQ o emb A (some (.int r)) h0) args s 0 0 A) o emb A s.heap 3 39 [] [] h0) → J p l e (rmf 1 23) s m args below meth c 0 0 (MQ below (WdQ o emb A (some (.int r)) h0) args s 0 0 A) o emb A s.heap 3 18 [(0, .int s0), (1, .int s1), (2, .int s2)] [] h0 := by
  intro n
  induction n with
  | zero =>
    intro s2 hf hk
    cases hf
  | succ n ih =>
    intro s2 hf hk
    rw [f_X5_hasDigits_l18] at hf
    refine J_iload_n X 2 dX5_hasDigits_18 rfl rfl ?_
    refine J_iload_n X 1 dX5_hasDigits_19 rfl rfl ?_
    refine J_icmp_ge (tgt := 39) X dX5_hasDigits_20 (by decide) (fun c20 => ?_) (fun c20 => ?_)
    · rw [if_pos c20] at hf
      exact J_sub [] rfl (hk s2 hf)
    · rw [if_neg c20] at hf
      refine J_iload_n X 0 dX5_hasDigits_23 rfl rfl ?_
      refine J_iload_n X 2 dX5_hasDigits_24 rfl rfl ?_
      obtain ⟨v2, qv2, hf⟩ := ob hf
      refine J_callS X (rest := []) (rs := [.int v2]) (c_X5_digit l o emb A hA s0 s2 h0 v2 qv2) wd_467 wd_468 wd_34 wd_469 hd_X5_digit ⟨Nat.le_of_ble_eq_true rfl, Nat.le_of_ble_eq_true rfl⟩ ⟨Nat.zero_le _, Nat.zero_le _⟩ (Nat.le_of_ble_eq_true rfl) dX5_hasDigits_25 rfl rfl ?_
      refine J_if_ne (tgt := 33) X dX5_hasDigits_28 (by decide) (fun c28 => ?_) (fun c28 => ?_)
      · rw [if_neg c28] at hf
        obtain ⟨v3, qv3, hf⟩ := ob hf
        refine J_iinc X 2 [(2, .int v3), (0, .int s0), (1, .int s1)] dX5_hasDigits_33 rfl (Option.some.inj qv3) (Nat.le_of_ble_eq_true rfl) rfl ?_
        refine J_goto (tgt := 18) X dX5_hasDigits_36 (by decide) ?_
        exact J_sub [1, 2, 0] rfl (ih v3 hf hk)
      · rw [if_pos c28] at hf
        refine J_const X (0 : Int32) dX5_hasDigits_31 (by decide) ?_
        cases hf
        exact J_zret X rfl dX5_hasDigits_32
set_option maxHeartbeats 4000000 in
set_option maxRecDepth 100000 in
theorem c_X5_hasDigits (l : Launch) (o : Om) (emb : Hp → va_W) (A : Nat → Prop) (hA : ∀ h : Hp, va_D A (emb h)) (x1 : Int32) (x2 : Int32) (h : Hp) (r : Int32) (hf : f_X5_hasDigits x1 x2 = some r) : Ct l o emb A yX5_hasDigits cX5_hasDigits 3 (some .boolean) 1 23 [.int x1, .int x2] h (some (.int r)) h := by
  refine Ct.of RX5 rfl (by decide +kernel) hA (Nat.le_of_ble_eq_true rfl) (fun p e s m args below meth c X => ?_)
  refine J_sub (lo' := [(0, .int x1), (1, .int x2)]) [0, 1] rfl ?_
  rw [f_X5_hasDigits] at hf
  refine J_iload_n X 0 dX5_hasDigits_0 rfl rfl ?_
  refine J_if_lt (tgt := 14) X dX5_hasDigits_1 (by decide) (fun c1 => ?_) (fun c1 => ?_)
  · rw [if_pos c1] at hf
    refine J_const X (0 : Int32) dX5_hasDigits_14 (by decide) ?_
    cases hf
    exact J_zret X rfl dX5_hasDigits_15
  · rw [if_neg c1] at hf
    refine J_iload_n X 0 dX5_hasDigits_4 rfl rfl ?_
    refine J_i2l X dX5_hasDigits_5 ?_
    refine J_iload_n X 1 dX5_hasDigits_6 rfl rfl ?_
    obtain ⟨v1, qv1, hf⟩ := ob hf
    refine J_callS X (rest := [.long (x1).toInt64]) (rs := [.long v1, .long (x1).toInt64]) (c_X5_powerOfTen l o emb A hA x2 h v1 qv1) wd_463 wd_464 wd_34 wd_465 hd_X5_powerOfTen ⟨Nat.le_of_ble_eq_true rfl, Nat.le_of_ble_eq_true rfl⟩ ⟨Nat.zero_le _, Nat.zero_le _⟩ (Nat.le_of_ble_eq_true rfl) dX5_hasDigits_7 rfl rfl ?_
    refine J_lcmp X dX5_hasDigits_10 ?_
    refine J_if_lt (tgt := 16) X dX5_hasDigits_11 (by decide) (fun c11 => ?_) (fun c11 => ?_)
    · rw [if_pos c11] at hf
      refine J_const X (0 : Int32) dX5_hasDigits_16 (by decide) ?_
      refine J_istore_n X [(2, .int (0 : Int32)), (0, .int x1), (1, .int x2)] dX5_hasDigits_17 rfl (Nat.le_of_ble_eq_true rfl) rfl ?_
      refine J_sub (lo' := [(0, .int x1), (1, .int x2), (2, .int (0 : Int32))]) [1, 2, 0] rfl ?_
      refine cf_X5_hasDigits_l18 hA X   x1 x2 h r _ (0 : Int32) hf (fun w4 hf => ?_)
      refine J_const X (1 : Int32) dX5_hasDigits_39 (by decide) ?_
      cases hf
      exact J_zret X rfl dX5_hasDigits_40
    · rw [if_neg c11] at hf
      refine J_const X (0 : Int32) dX5_hasDigits_14 (by decide) ?_
      cases hf
      exact J_zret X rfl dX5_hasDigits_15
theorem hd_X5_countUsers : yX5_countUsers.cls ≠ "java/lang/invoke/MethodHandle" ∧ yX5_countUsers.cls ≠ "java/lang/invoke/VarHandle" ∧ (parseMethodDescriptor yX5_countUsers.desc).map (fun d => d.parameters.length) = some 3 := by decide +kernel
set_option maxHeartbeats 4000000 in
set_option maxRecDepth 100000 in
theorem cf_X5_countUsers_l5 {R : Type} (hA : ∀ h : Hp, va_D A (emb h)) (X : Cx p s m args meth c RX5 cX5_countUsers 5 (some .int) o)   (s0 : Int32) (s1 : Int32) (s2 : Int32) (h0 : Hp) {kx : Int32 → Int32 → Option R} (t : R) : ∀ (n : Nat) (s3 : Int32) (s4 : Int32), f_X5_countUsers_l5 s0 s1 s2 kx n s3 s4 = some t → (∀ (s3 : Int32) (s4 : Int32), kx s3 s4 = some t → J p l e (rmf 1 23) s m args below meth c 0 0 Z o emb A H0 5 30 [(3, .int s3)] [] h0) → J p l e (rmf 1 23) s m args below meth c 0 0 Z o emb A H0 5 5 [(0, .int s0), (1, .int s1), (2, .int s2), (3, .int s3), (4, .int s4)] [] h0 := by
  intro n
  induction n with
  | zero =>
    intro s3 s4 hf hk
    cases hf
  | succ n ih =>
    intro s3 s4 hf hk
    rw [f_X5_countUsers_l5] at hf
    refine J_iload X 4 dX5_countUsers_5 rfl ?_
    refine J_iload_n X 1 dX5_countUsers_7 rfl rfl ?_
    refine J_icmp_ge (tgt := 30) X dX5_countUsers_8 (by decide) (fun c8 => ?_) (fun c8 => ?_)
    · rw [if_pos c8] at hf
      exact J_sub [3] rfl (hk s3 s4 hf)
    · rw [if_neg c8] at hf
      refine J_iload_n X 0 dX5_countUsers_11 rfl rfl ?_
      refine J_iload X 4 dX5_countUsers_12 rfl ?_
      obtain ⟨v1, qv1, hf⟩ := ob hf
      refine J_callS X (rest := []) (rs := [.int v1]) (c_X5_digit l o emb A hA s0 s4 h0 v1 qv1) wd_467 wd_468 wd_34 wd_469 hd_X5_digit ⟨Nat.le_of_ble_eq_true rfl, Nat.le_of_ble_eq_true rfl⟩ ⟨Nat.zero_le _, Nat.zero_le _⟩ (Nat.le_of_ble_eq_true rfl) dX5_countUsers_14 rfl rfl ?_
      refine J_iload_n X 2 dX5_countUsers_17 rfl rfl ?_
      refine J_icmp_lt (tgt := 24) X dX5_countUsers_18 (by decide) (fun c18 => ?_) (fun c18 => ?_)
      · rw [if_pos c18] at hf
        obtain ⟨v2, qv2, hf⟩ := ob hf
        refine J_iinc X 4 [(4, .int v2), (0, .int s0), (1, .int s1), (2, .int s2), (3, .int s3)] dX5_countUsers_24 rfl (Option.some.inj qv2) (Nat.le_of_ble_eq_true rfl) rfl ?_
        refine J_goto (tgt := 5) X dX5_countUsers_27 (by decide) ?_
        exact J_sub [1, 2, 3, 4, 0] rfl (ih s3 v2 hf hk)
      · rw [if_neg c18] at hf
        obtain ⟨v3, qv3, hf⟩ := ob hf
        refine J_iinc X 3 [(3, .int v3), (0, .int s0), (1, .int s1), (2, .int s2), (4, .int s4)] dX5_countUsers_21 rfl (Option.some.inj qv3) (Nat.le_of_ble_eq_true rfl) rfl ?_
        obtain ⟨v4, qv4, hf⟩ := ob hf
        refine J_iinc X 4 [(4, .int v4), (3, .int v3), (0, .int s0), (1, .int s1), (2, .int s2)] dX5_countUsers_24 rfl (Option.some.inj qv4) (Nat.le_of_ble_eq_true rfl) rfl ?_
        refine J_goto (tgt := 5) X dX5_countUsers_27 (by decide) ?_
        exact J_sub [2, 3, 4, 1, 0] rfl (ih v3 v4 hf hk)
set_option maxHeartbeats 4000000 in
set_option maxRecDepth 100000 in
theorem c_X5_countUsers (l : Launch) (o : Om) (emb : Hp → va_W) (A : Nat → Prop) (hA : ∀ h : Hp, va_D A (emb h)) (x1 : Int32) (x2 : Int32) (x3 : Int32) (h : Hp) (r : Int32) (hf : f_X5_countUsers x1 x2 x3 = some r) : Ct l o emb A yX5_countUsers cX5_countUsers 5 (some .int) 1 23 [.int x1, .int x2, .int x3] h (some (.int r)) h := by
  refine Ct.of RX5 rfl (by decide +kernel) hA (Nat.le_of_ble_eq_true rfl) (fun p e s m args below meth c X => ?_)
  refine J_sub (lo' := [(0, .int x1), (1, .int x2), (2, .int x3)]) [0, 1, 2] rfl ?_
  rw [f_X5_countUsers] at hf
  refine J_const X (0 : Int32) dX5_countUsers_0 (by decide) ?_
  refine J_istore_n X [(3, .int (0 : Int32)), (0, .int x1), (1, .int x2), (2, .int x3)] dX5_countUsers_1 rfl (Nat.le_of_ble_eq_true rfl) rfl ?_
  refine J_const X (0 : Int32) dX5_countUsers_2 (by decide) ?_
  refine J_istore X [(4, .int (0 : Int32)), (3, .int (0 : Int32)), (0, .int x1), (1, .int x2), (2, .int x3)] dX5_countUsers_3 (Nat.le_of_ble_eq_true rfl) rfl ?_
  refine J_sub (lo' := [(0, .int x1), (1, .int x2), (2, .int x3), (3, .int (0 : Int32)), (4, .int (0 : Int32))]) [2, 3, 4, 1, 0] rfl ?_
  refine cf_X5_countUsers_l5 hA X   x1 x2 x3 h _ _ (0 : Int32) (0 : Int32) hf (fun w5 w6 hf => ?_)
  refine J_iload_n X 0 dX5_countUsers_30 rfl rfl ?_
  cases hf
  exact J_iret X dX5_countUsers_31
theorem hd_X5_commonDivisor : yX5_commonDivisor.cls ≠ "java/lang/invoke/MethodHandle" ∧ yX5_commonDivisor.cls ≠ "java/lang/invoke/VarHandle" ∧ (parseMethodDescriptor yX5_commonDivisor.desc).map (fun d => d.parameters.length) = some 2 := by decide +kernel
set_option maxHeartbeats 4000000 in
set_option maxRecDepth 100000 in
theorem cf_X5_commonDivisor_l9 {R : Type} (hA : ∀ h : Hp, va_D A (emb h)) (X : Cx p s m args meth c RX5 cX5_commonDivisor 11 (some .long) o)    (h0 : Hp) {kx : Int64 → Int64 → Int32 → Option R} (t : R) : ∀ (n : Nat) (s4 : Int64) (s6 : Int64) (s8 : Int32), f_X5_commonDivisor_l9 kx n s4 s6 s8 = some t → (∀ (s4 : Int64) (s6 : Int64) (s8 : Int32), kx s4 s6 s8 = some t → J p l e (rmf 0 0) s m args below meth c 0 0 Z o emb A H0 11 45 [(4, .long s4)] [] h0) → J p l e (rmf 0 0) s m args below meth c 0 0 Z o emb A H0 11 9 [(4, .long s4), (6, .long s6), (8, .int s8)] [] h0 := by
  intro n
  induction n with
  | zero =>
    intro s4 s6 s8 hf hk
    cases hf
  | succ n ih =>
    intro s4 s6 s8 hf hk
    rw [f_X5_commonDivisor_l9] at hf
    refine J_iload X 2 dX5_commonDivisor_9 rfl ?_
    refine J_sipush X (200 : Int32) dX5_commonDivisor_11 (by decide) ?_
    refine J_icmp_ge (tgt := 45) X dX5_commonDivisor_14 (by decide) (fun c14 => ?_) (fun c14 => ?_)
    · rw [if_pos c14] at hf
      exact J_sub [0] rfl (hk s4 s6 s8 hf)
    · rw [if_neg c14] at hf
      refine J_lload X 1 dX5_commonDivisor_17 rfl ?_
      refine J_lconst X (0 : Int64) dX5_commonDivisor_19 (by decide) ?_
      refine J_lcmp X dX5_commonDivisor_20 ?_
      refine J_if_eq (tgt := 45) X dX5_commonDivisor_21 (by decide) (fun c21 => ?_) (fun c21 => ?_)
      · rw [if_pos c21] at hf
        exact J_sub [0] rfl (hk s4 s6 s8 hf)
      · rw [if_neg c21] at hf
        refine J_lload X 0 dX5_commonDivisor_24 rfl ?_
        refine J_lload X 1 dX5_commonDivisor_26 rfl ?_
        obtain ⟨v1, qv1, hf⟩ := ob hf
        refine J_lrem X dX5_commonDivisor_28 (lrm_s qv1).1 ?_
        refine J_topl v1 (lrm_s qv1).2 ?_
        refine J_lstore X [(9, .long v1), (4, .long s4), (6, .long s6), (8, .int s8)] dX5_commonDivisor_29 (Nat.le_of_ble_eq_true rfl) rfl ?_
        refine J_lload X 2 dX5_commonDivisor_31 rfl ?_
        refine J_lstore X [(4, .long s6), (9, .long v1), (6, .long s6), (8, .int s8)] dX5_commonDivisor_33 (Nat.le_of_ble_eq_true rfl) rfl ?_
        refine J_lload X 1 dX5_commonDivisor_35 rfl ?_
        refine J_lstore X [(6, .long v1), (4, .long s6), (9, .long v1), (8, .int s8)] dX5_commonDivisor_37 (Nat.le_of_ble_eq_true rfl) rfl ?_
        obtain ⟨v2, qv2, hf⟩ := ob hf
        refine J_iinc X 3 [(8, .int v2), (6, .long v1), (4, .long s6), (9, .long v1)] dX5_commonDivisor_39 rfl (Option.some.inj qv2) (Nat.le_of_ble_eq_true rfl) rfl ?_
        refine J_goto (tgt := 9) X dX5_commonDivisor_42 (by decide) ?_
        exact J_sub [2, 1, 0] rfl (ih s6 v1 v2 hf hk)
set_option maxHeartbeats 4000000 in
set_option maxRecDepth 100000 in
theorem c_X5_commonDivisor (l : Launch) (o : Om) (emb : Hp → va_W) (A : Nat → Prop) (hA : ∀ h : Hp, va_D A (emb h)) (x1 : Int64) (x2 : Int64) (h : Hp) (r : Int64) (hf : f_X5_commonDivisor x1 x2 = some r) : Ct l o emb A yX5_commonDivisor cX5_commonDivisor 11 (some .long) 0 0 [.long x1, .long x2] h (some (.long r)) h := by
  refine Ct.of RX5 rfl (by decide +kernel) hA (Nat.le_of_ble_eq_true rfl) (fun p e s m args below meth c X => ?_)
  refine J_sub (lo' := [(0, .long x1), (2, .long x2)]) [0, 1] rfl ?_
  rw [f_X5_commonDivisor] at hf
  refine J_lload_n X 0 dX5_commonDivisor_0 rfl rfl ?_
  refine J_lstore X [(4, .long x1), (0, .long x1), (2, .long x2)] dX5_commonDivisor_1 (Nat.le_of_ble_eq_true rfl) rfl ?_
  refine J_lload_n X 2 dX5_commonDivisor_3 rfl rfl ?_
  refine J_lstore X [(6, .long x2), (4, .long x1), (0, .long x1), (2, .long x2)] dX5_commonDivisor_4 (Nat.le_of_ble_eq_true rfl) rfl ?_
  refine J_const X (0 : Int32) dX5_commonDivisor_6 (by decide) ?_
  refine J_istore X [(8, .int (0 : Int32)), (6, .long x2), (4, .long x1), (0, .long x1), (2, .long x2)] dX5_commonDivisor_7 (Nat.le_of_ble_eq_true rfl) rfl ?_
  refine J_sub (lo' := [(4, .long x1), (6, .long x2), (8, .int (0 : Int32))]) [2, 1, 0] rfl ?_
  refine cf_X5_commonDivisor_l9 hA X    h _ _ x1 x2 (0 : Int32) hf (fun w3 w4 w5 hf => ?_)
  refine J_lload X 0 dX5_commonDivisor_45 rfl ?_
  cases hf
  exact J_lret X dX5_commonDivisor_47
theorem hd_X5_lowestTerms : yX5_lowestTerms.cls ≠ "java/lang/invoke/MethodHandle" ∧ yX5_lowestTerms.cls ≠ "java/lang/invoke/VarHandle" ∧ (parseMethodDescriptor yX5_lowestTerms.desc).map (fun d => d.parameters.length) = some 3 := by decide +kernel
set_option maxHeartbeats 4000000 in
set_option maxRecDepth 100000 in
theorem c_X5_lowestTerms (l : Launch) (o : Om) (emb : Hp → va_W) (A : Nat → Prop) (hA : ∀ h : Hp, va_D A (emb h)) (x1 : Int64) (x2 : Int64) (x3 : Int32) (h : Hp) (r : Int64) (hf : f_X5_lowestTerms x1 x2 x3 = some r) : Ct l o emb A yX5_lowestTerms cX5_lowestTerms 9 (some .long) 1 30 [.long x1, .long x2, .int x3] h (some (.long r)) h := by
  refine Ct.of RX5 rfl (by decide +kernel) hA (Nat.le_of_ble_eq_true rfl) (fun p e s m args below meth c X => ?_)
  refine J_sub (lo' := [(0, .long x1), (2, .long x2), (4, .int x3)]) [0, 1, 2] rfl ?_
  rw [f_X5_lowestTerms] at hf
  refine J_lload_n X 0 dX5_lowestTerms_0 rfl rfl ?_
  refine J_lload_n X 1 dX5_lowestTerms_1 rfl rfl ?_
  obtain ⟨v1, qv1, hf⟩ := ob hf
  refine J_callS X (rest := []) (rs := [.long v1]) (c_X5_commonDivisor l o emb A hA x1 x2 h v1 qv1) wd_490 wd_491 wd_34 wd_492 hd_X5_commonDivisor ⟨Nat.le_of_ble_eq_true rfl, Nat.le_of_ble_eq_true rfl⟩ ⟨Nat.zero_le _, Nat.zero_le _⟩ (Nat.le_of_ble_eq_true rfl) dX5_lowestTerms_2 rfl rfl ?_
  refine J_lstore X [(5, .long v1), (0, .long x1), (2, .long x2), (4, .int x3)] dX5_lowestTerms_5 (Nat.le_of_ble_eq_true rfl) rfl ?_
  refine J_iload X 3 dX5_lowestTerms_7 rfl ?_
  obtain ⟨t3, qt3, hf⟩ := ob hf
  have yk2 : J p l e (rmf 1 30) s m args below meth c 0 0 (MQ below (WdQ o emb A (some (.long r)) h) args s 0 0 A) o emb A s.heap 9 17 [(5, .long v1)] [.long t3] h := by
    refine J_lstore X [(7, .long t3), (5, .long v1)] dX5_lowestTerms_17 (Nat.le_of_ble_eq_true rfl) rfl ?_
    refine J_lload X 1 dX5_lowestTerms_19 rfl ?_
    refine J_lconst X (0 : Int64) dX5_lowestTerms_21 (by decide) ?_
    refine J_lcmp X dX5_lowestTerms_22 ?_
    refine J_if_le (tgt := 34) X dX5_lowestTerms_23 (by decide) (fun c23 => ?_) (fun c23 => ?_)
    · rw [if_pos c23] at hf
      refine J_lload X 0 dX5_lowestTerms_34 rfl ?_
      cases hf
      exact J_lret X dX5_lowestTerms_36
    · rw [if_neg c23] at hf
      refine J_lload X 0 dX5_lowestTerms_26 rfl ?_
      refine J_lload X 1 dX5_lowestTerms_28 rfl ?_
      obtain ⟨v4, qv4, hf⟩ := ob hf
      refine J_ldiv X dX5_lowestTerms_30 (ldv_s qv4).1 ?_
      refine J_topl v4 (ldv_s qv4).2 ?_
      refine J_goto (tgt := 36) X dX5_lowestTerms_31 (by decide) ?_
      cases hf
      exact J_lret X dX5_lowestTerms_36
  clear hf
  have hf := qt3
  clear qt3
  refine J_if_ne (tgt := 16) X dX5_lowestTerms_9 (by decide) (fun c9 => ?_) (fun c9 => ?_)
  · rw [if_neg c9] at hf
    refine J_lload_n X 2 dX5_lowestTerms_16 rfl rfl ?_
    cases hf
    exact J_sub [0] rfl yk2
  · rw [if_pos c9] at hf
    refine J_lload_n X 1 dX5_lowestTerms_12 rfl rfl ?_
    refine J_goto (tgt := 17) X dX5_lowestTerms_13 (by decide) ?_
    cases hf
    exact J_sub [0] rfl yk2
theorem hd_J7_fill_d0a16 : yJ7_fill_d0a16.cls ≠ "java/lang/invoke/MethodHandle" ∧ yJ7_fill_d0a16.cls ≠ "java/lang/invoke/VarHandle" ∧ (parseMethodDescriptor yJ7_fill_d0a16.desc).map (fun d => d.parameters.length) = some 2 := by decide +kernel
set_option maxHeartbeats 4000000 in
set_option maxRecDepth 100000 in
theorem cf_J7_fill_d0a16_l6 {R : Type} (hA : ∀ h : Hp, va_D A (emb h)) (X : Cx p s m args meth c RJ7 cJ7_fill_d0a16 5 none o) (r1 n1 : Nat) (hE1 : EL o emb r1 n1) (s1 : Int64) (s4 : Int32) {kx : Int32 → Hp → Option R} (t : R) : ∀ (n : Nat) (s3 : Int32) (h : Hp), f_J7_fill_d0a16_l6 r1 n1 s1 s4 kx n s3 h = some t → (∀ (s3 : Int32) (h : Hp), kx s3 h = some t → J p l e (rmf 0 0) s m args below meth c 0 0 Z o emb A H0 5 22 [] [] h) → J p l e (rmf 0 0) s m args below meth c 0 0 Z o emb A H0 5 6 [(0, .ref (o.1 r1)), (1, .long s1), (3, .int s3), (4, .int s4)] [] h := by
  intro n
  induction n with
  | zero =>
    intro s3 h hf hk
    cases hf
  | succ n ih =>
    intro s3 h hf hk
    rw [f_J7_fill_d0a16_l6] at hf
    refine J_iload_n X 2 dJ7_fill_d0a16_6 rfl rfl ?_
    refine J_iload X 3 dJ7_fill_d0a16_7 rfl ?_
    refine J_icmp_ge (tgt := 22) X dJ7_fill_d0a16_9 (by decide) (fun c9 => ?_) (fun c9 => ?_)
    · rw [if_pos c9] at hf
      exact J_sub [] rfl (hk s3 h hf)
    · rw [if_neg c9] at hf
      refine J_aload_n X 0 dJ7_fill_d0a16_12 rfl rfl ?_
      refine J_iload_n X 2 dJ7_fill_d0a16_13 rfl rfl ?_
      refine J_lload_n X 1 dJ7_fill_d0a16_14 rfl rfl ?_
      obtain ⟨h2, qh2, hf⟩ := ob hf
      refine J_last X hE1 (last_s qh2).1 dJ7_fill_d0a16_15 ?_
      refine J_hp h2 (last_s qh2).2 ?_
      obtain ⟨v3, qv3, hf⟩ := ob hf
      refine J_iinc X 2 [(3, .int v3), (0, .ref (o.1 r1)), (1, .long s1), (4, .int s4)] dJ7_fill_d0a16_16 rfl (Option.some.inj qv3) (Nat.le_of_ble_eq_true rfl) rfl ?_
      refine J_goto (tgt := 6) X dJ7_fill_d0a16_19 (by decide) ?_
      exact J_sub [1, 2, 0, 3] rfl (ih v3 h2 hf hk)
set_option maxHeartbeats 4000000 in
set_option maxRecDepth 100000 in
theorem c_J7_fill_d0a16 (l : Launch) (o : Om) (emb : Hp → va_W) (A : Nat → Prop) (hA : ∀ h : Hp, va_D A (emb h)) (r1 n1 : Nat) (hE1 : EL o emb r1 n1) (x2 : Int64) (h : Hp)  (h' : Hp) (hf : f_J7_fill_d0a16 r1 n1 x2 h = some h') : Ct l o emb A yJ7_fill_d0a16 cJ7_fill_d0a16 5 none 0 0 [.ref (o.1 r1), .long x2] h none h' := by
  refine Ct.of RJ7 rfl (by decide +kernel) hA (Nat.le_of_ble_eq_true rfl) (fun p e s m args below meth c X => ?_)
  refine J_sub (lo' := [(0, .ref (o.1 r1)), (1, .long x2)]) [0, 1] rfl ?_
  rw [f_J7_fill_d0a16] at hf
  refine J_const X (0 : Int32) dJ7_fill_d0a16_0 (by decide) ?_
  refine J_istore_n X [(3, .int (0 : Int32)), (0, .ref (o.1 r1)), (1, .long x2)] dJ7_fill_d0a16_1 rfl (Nat.le_of_ble_eq_true rfl) rfl ?_
  refine J_aload_n X 1 dJ7_fill_d0a16_2 rfl rfl ?_
  refine J_alenL X hE1 (Int32.ofNat n1) (rfl) dJ7_fill_d0a16_3 ?_
  obtain ⟨v1, qv1, hf⟩ := ob hf
  refine J_topi v1 (Option.some.inj qv1) ?_
  refine J_istore X [(4, .int v1), (3, .int (0 : Int32)), (0, .ref (o.1 r1)), (1, .long x2)] dJ7_fill_d0a16_4 (Nat.le_of_ble_eq_true rfl) rfl ?_
  refine J_sub (lo' := [(0, .ref (o.1 r1)), (1, .long x2), (3, .int (0 : Int32)), (4, .int v1)]) [2, 3, 1, 0] rfl ?_
  refine cf_J7_fill_d0a16_l6 hA X r1 n1 hE1 x2 v1 _ _ (0 : Int32) h hf (fun w4 h5 hf => ?_)
  cases hf
  exact J_vret X dJ7_fill_d0a16_22
end CERT
