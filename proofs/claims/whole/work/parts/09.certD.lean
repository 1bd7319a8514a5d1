section CERT
variable {p : Program} {l : Launch} {e : Env} {s : State} {m : MethodId} {args : Array Value} {below : List Frame} {meth : Method} {c : Code} {Z : State → Prop} {o : Om} {emb : Hp → va_W} {A : Nat → Prop} {H0 : Heap}
theorem hd_X6_in : yX6_in.cls ≠ "java/lang/invoke/MethodHandle" ∧ yX6_in.cls ≠ "java/lang/invoke/VarHandle" ∧ (parseMethodDescriptor yX6_in.desc).map (fun d => d.parameters.length) = some 3 := by decide +kernel
set_option maxHeartbeats 4000000 in
set_option maxRecDepth 100000 in
theorem c_X6_in (l : Launch) (o : Om) (emb : Hp → va_W) (A : Nat → Prop) (hA : ∀ h : Hp, va_D A (emb h)) (x1 : Int32) (x2 : Int32) (x3 : Int32) (h : Hp) (r : Int32) (hf : f_X6_in x1 x2 x3 = some r) : Ct l o emb A yX6_in cX6_in 3 (some .boolean) 0 0 [.int x1, .int x2, .int x3] h (some (.int r)) h := by
  refine Ct.of RX6 rfl (by decide +kernel) hA (Nat.le_of_ble_eq_true rfl) (fun p e s m args below meth c X => ?_)
  refine J_sub (lo' := [(0, .int x1), (1, .int x2), (2, .int x3)]) [0, 1, 2] rfl ?_
  rw [f_X6_in] at hf
  refine J_iload_n X 0 dX6_in_0 rfl rfl ?_
  refine J_iload_n X 1 dX6_in_1 rfl rfl ?_
  refine J_icmp_lt (tgt := 14) X dX6_in_2 (by decide) (fun c2 => ?_) (fun c2 => ?_)
  · rw [if_pos c2] at hf
    refine J_const X (0 : Int32) dX6_in_14 (by decide) ?_
    cases hf
    exact J_zret X rfl dX6_in_15
  · rw [if_neg c2] at hf
    refine J_iload_n X 0 dX6_in_5 rfl rfl ?_
    refine J_iload_n X 2 dX6_in_6 rfl rfl ?_
    refine J_icmp_gt (tgt := 14) X dX6_in_7 (by decide) (fun c7 => ?_) (fun c7 => ?_)
    · rw [if_pos c7] at hf
      refine J_const X (0 : Int32) dX6_in_14 (by decide) ?_
      cases hf
      exact J_zret X rfl dX6_in_15
    · rw [if_neg c7] at hf
      refine J_const X (1 : Int32) dX6_in_10 (by decide) ?_
      refine J_goto (tgt := 15) X dX6_in_11 (by decide) ?_
      cases hf
      exact J_zret X rfl dX6_in_15
theorem hd_X6_has : yX6_has.cls ≠ "java/lang/invoke/MethodHandle" ∧ yX6_has.cls ≠ "java/lang/invoke/VarHandle" ∧ (parseMethodDescriptor yX6_has.desc).map (fun d => d.parameters.length) = some 2 := by decide +kernel
set_option maxHeartbeats 4000000 in
set_option maxRecDepth 100000 in
theorem c_X6_has (l : Launch) (o : Om) (emb : Hp → va_W) (A : Nat → Prop) (hA : ∀ h : Hp, va_D A (emb h)) (x1 : Int32) (x2 : Int32) (h : Hp) (r : Int32) (hf : f_X6_has x1 x2 = some r) : Ct l o emb A yX6_has cX6_has 2 (some .boolean) 0 0 [.int x1, .int x2] h (some (.int r)) h := by
  refine Ct.of RX6 rfl (by decide +kernel) hA (Nat.le_of_ble_eq_true rfl) (fun p e s m args below meth c X => ?_)
  refine J_sub (lo' := [(0, .int x1), (1, .int x2)]) [0, 1] rfl ?_
  rw [f_X6_has] at hf
  refine J_iload_n X 0 dX6_has_0 rfl rfl ?_
  refine J_iload_n X 1 dX6_has_1 rfl rfl ?_
  refine J_ishr X dX6_has_2 ?_
  refine J_const X (1 : Int32) dX6_has_3 (by decide) ?_
  refine J_iand X dX6_has_4 ?_
  refine J_const X (1 : Int32) dX6_has_5 (by decide) ?_
  refine J_icmp_ne (tgt := 13) X dX6_has_6 (by decide) (fun c6 => ?_) (fun c6 => ?_)
  · rw [if_neg c6] at hf
    refine J_const X (0 : Int32) dX6_has_13 (by decide) ?_
    cases hf
    exact J_zret X rfl dX6_has_14
  · rw [if_pos c6] at hf
    refine J_const X (1 : Int32) dX6_has_9 (by decide) ?_
    refine J_goto (tgt := 14) X dX6_has_10 (by decide) ?_
    cases hf
    exact J_zret X rfl dX6_has_14
theorem hd_X6_bits : yX6_bits.cls ≠ "java/lang/invoke/MethodHandle" ∧ yX6_bits.cls ≠ "java/lang/invoke/VarHandle" ∧ (parseMethodDescriptor yX6_bits.desc).map (fun d => d.parameters.length) = some 1 := by decide +kernel
set_option maxHeartbeats 4000000 in
set_option maxRecDepth 100000 in
theorem cf_X6_bits_l4 {R : Type} (hA : ∀ h : Hp, va_D A (emb h)) (X : Cx p s m args meth c RX6 cX6_bits 3 (some .int) o)   (s0 : Int32) (h0 : Hp) {kx : Int32 → Int32 → Option R} (t : R) : ∀ (n : Nat) (s1 : Int32) (s2 : Int32), f_X6_bits_l4 s0 kx n s1 s2 = some t → (∀ (s1 : Int32) (s2 : Int32), kx s1 s2 = some t → J p l e (rmf 0 0) s m args below meth c 0 0 Z o emb A H0 3 24 [(1, .int s1)] [] h0) → J p l e (rmf 0 0) s m args below meth c 0 0 Z o emb A H0 3 4 [(0, .int s0), (1, .int s1), (2, .int s2)] [] h0 := by
  intro n
  induction n with
  | zero =>
    intro s1 s2 hf hk
    cases hf
  | succ n ih =>
    intro s1 s2 hf hk
    rw [f_X6_bits_l4] at hf
    refine J_iload_n X 2 dX6_bits_4 rfl rfl ?_
    refine J_bipush X (9 : Int32) dX6_bits_5 (by decide) ?_
    refine J_icmp_ge (tgt := 24) X dX6_bits_7 (by decide) (fun c7 => ?_) (fun c7 => ?_)
    · rw [if_pos c7] at hf
      exact J_sub [1] rfl (hk s1 s2 hf)
    · rw [if_neg c7] at hf
      refine J_iload_n X 1 dX6_bits_10 rfl rfl ?_
      refine J_iload_n X 0 dX6_bits_11 rfl rfl ?_
      refine J_iload_n X 2 dX6_bits_12 rfl rfl ?_
      refine J_ishr X dX6_bits_13 ?_
      refine J_const X (1 : Int32) dX6_bits_14 (by decide) ?_
      refine J_iand X dX6_bits_15 ?_
      refine J_iadd X dX6_bits_16 ?_
      obtain ⟨v1, qv1, hf⟩ := ob hf
      refine J_topi v1 (Option.some.inj qv1) ?_
      refine J_istore_n X [(1, .int v1), (0, .int s0), (2, .int s2)] dX6_bits_17 rfl (Nat.le_of_ble_eq_true rfl) rfl ?_
      obtain ⟨v2, qv2, hf⟩ := ob hf
      refine J_iinc X 2 [(2, .int v2), (1, .int v1), (0, .int s0)] dX6_bits_18 rfl (Option.some.inj qv2) (Nat.le_of_ble_eq_true rfl) rfl ?_
      refine J_goto (tgt := 4) X dX6_bits_21 (by decide) ?_
      exact J_sub [2, 1, 0] rfl (ih v1 v2 hf hk)
set_option maxHeartbeats 4000000 in
set_option maxRecDepth 100000 in
theorem c_X6_bits (l : Launch) (o : Om) (emb : Hp → va_W) (A : Nat → Prop) (hA : ∀ h : Hp, va_D A (emb h)) (x1 : Int32) (h : Hp) (r : Int32) (hf : f_X6_bits x1 = some r) : Ct l o emb A yX6_bits cX6_bits 3 (some .int) 0 0 [.int x1] h (some (.int r)) h := by
  refine Ct.of RX6 rfl (by decide +kernel) hA (Nat.le_of_ble_eq_true rfl) (fun p e s m args below meth c X => ?_)
  refine J_sub (lo' := [(0, .int x1)]) [0] rfl ?_
  rw [f_X6_bits] at hf
  refine J_const X (0 : Int32) dX6_bits_0 (by decide) ?_
  refine J_istore_n X [(1, .int (0 : Int32)), (0, .int x1)] dX6_bits_1 rfl (Nat.le_of_ble_eq_true rfl) rfl ?_
  refine J_const X (0 : Int32) dX6_bits_2 (by decide) ?_
  refine J_istore_n X [(2, .int (0 : Int32)), (1, .int (0 : Int32)), (0, .int x1)] dX6_bits_3 rfl (Nat.le_of_ble_eq_true rfl) rfl ?_
  refine J_sub (lo' := [(0, .int x1), (1, .int (0 : Int32)), (2, .int (0 : Int32))]) [2, 1, 0] rfl ?_
  refine cf_X6_bits_l4 hA X   x1 h _ _ (0 : Int32) (0 : Int32) hf (fun w3 w4 hf => ?_)
  refine J_iload_n X 0 dX6_bits_24 rfl rfl ?_
  cases hf
  exact J_iret X dX6_bits_25
theorem hd_X6_isPlace : yX6_isPlace.cls ≠ "java/lang/invoke/MethodHandle" ∧ yX6_isPlace.cls ≠ "java/lang/invoke/VarHandle" ∧ (parseMethodDescriptor yX6_isPlace.desc).map (fun d => d.parameters.length) = some 1 := by decide +kernel
set_option maxHeartbeats 4000000 in
set_option maxRecDepth 100000 in
theorem c_X6_isPlace (l : Launch) (o : Om) (emb : Hp → va_W) (A : Nat → Prop) (hA : ∀ h : Hp, va_D A (emb h)) (x1 : Int32) (h : Hp) (r : Int32) (hf : f_X6_isPlace x1 = some r) : Ct l o emb A yX6_isPlace cX6_isPlace 1 (some .boolean) 1 22 [.int x1] h (some (.int r)) h := by
  refine Ct.of RX6 rfl (by decide +kernel) hA (Nat.le_of_ble_eq_true rfl) (fun p e s m args below meth c X => ?_)
  refine J_sub (lo' := [(0, .int x1)]) [0] rfl ?_
  rw [f_X6_isPlace] at hf
  refine J_iload_n X 0 dX6_isPlace_0 rfl rfl ?_
  refine J_const X (0 : Int32) dX6_isPlace_1 (by decide) ?_
  refine J_bipush X (8 : Int32) dX6_isPlace_2 (by decide) ?_
  obtain ⟨v1, qv1, hf⟩ := ob hf
  refine J_callS X (rest := []) (rs := [.int v1]) (c_X6_in l o emb A hA x1 (0 : Int32) (8 : Int32) h v1 qv1) wd_660 wd_661 wd_41 wd_662 hd_X6_in ⟨Nat.le_of_ble_eq_true rfl, Nat.le_of_ble_eq_true rfl⟩ ⟨Nat.zero_le _, Nat.zero_le _⟩ (Nat.le_of_ble_eq_true rfl) dX6_isPlace_4 rfl rfl ?_
  obtain ⟨v2, qv2, hf⟩ := ob hf
  have zv2 := (zck_s qv2).1
  have yv2 := (zck_s qv2).2
  rw [yv2] at zv2
  refine J_topi v2 yv2 ?_
  cases hf
  exact J_zret X zv2 dX6_isPlace_7
theorem hd_X6_isThere : yX6_isThere.cls ≠ "java/lang/invoke/MethodHandle" ∧ yX6_isThere.cls ≠ "java/lang/invoke/VarHandle" ∧ (parseMethodDescriptor yX6_isThere.desc).map (fun d => d.parameters.length) = some 1 := by decide +kernel
set_option maxHeartbeats 4000000 in
set_option maxRecDepth 100000 in
theorem c_X6_isThere (l : Launch) (o : Om) (emb : Hp → va_W) (A : Nat → Prop) (hA : ∀ h : Hp, va_D A (emb h)) (hO : isX6 o emb) (x1 : Int32) (h : Hp) (r : Int32) (hf : f_X6_isThere x1 h = some r) : Ct l o emb A yX6_isThere cX6_isThere 2 (some .boolean) 1 22 [.ref (o.1 0), .int x1] h (some (.int r)) h := by
  refine Ct.of RX6 rfl (by decide +kernel) hA (Nat.le_of_ble_eq_true rfl) (fun p e s m args below meth c X => ?_)
  refine J_sub (lo' := [(0, .ref (o.1 0)), (1, .int x1)]) [0, 1] rfl ?_
  rw [f_X6_isThere] at hf
  refine J_iload_n X 1 dX6_isThere_0 rfl rfl ?_
  refine J_const X (0 : Int32) dX6_isThere_1 (by decide) ?_
  refine J_const X (5 : Int32) dX6_isThere_2 (by decide) ?_
  obtain ⟨v1, qv1, hf⟩ := ob hf
  refine J_callS X (rest := []) (rs := [.int v1]) (c_X6_in l o emb A hA x1 (0 : Int32) (5 : Int32) h v1 qv1) wd_660 wd_661 wd_41 wd_662 hd_X6_in ⟨Nat.le_of_ble_eq_true rfl, Nat.le_of_ble_eq_true rfl⟩ ⟨Nat.zero_le _, Nat.zero_le _⟩ (Nat.le_of_ble_eq_true rfl) dX6_isThere_3 rfl rfl ?_
  refine J_if_eq (tgt := 24) X dX6_isThere_6 (by decide) (fun c6 => ?_) (fun c6 => ?_)
  · rw [if_pos c6] at hf
    refine J_const X (0 : Int32) dX6_isThere_24 (by decide) ?_
    cases hf
    exact J_zret X rfl dX6_isThere_25
  · rw [if_neg c6] at hf
    refine J_aload_n X 0 dX6_isThere_9 rfl rfl ?_
    refine J_get X hO.1 inX6 rfl 2 (Nat.le_of_ble_eq_true rfl) wd_593 rfl (v := .int (h.1 0 2)) rfl dX6_isThere_10 ?_
    refine J_iload_n X 1 dX6_isThere_13 rfl rfl ?_
    obtain ⟨v2, qv2, hf⟩ := ob hf
    refine J_callS X (rest := []) (rs := [.int v2]) (c_X6_has l o emb A hA (h.1 0 2) x1 h v2 qv2) wd_730 wd_731 wd_41 wd_732 hd_X6_has ⟨Nat.le_of_ble_eq_true rfl, Nat.le_of_ble_eq_true rfl⟩ ⟨Nat.zero_le _, Nat.zero_le _⟩ (Nat.le_of_ble_eq_true rfl) dX6_isThere_14 rfl rfl ?_
    refine J_if_eq (tgt := 24) X dX6_isThere_17 (by decide) (fun c17 => ?_) (fun c17 => ?_)
    · rw [if_pos c17] at hf
      refine J_const X (0 : Int32) dX6_isThere_24 (by decide) ?_
      cases hf
      exact J_zret X rfl dX6_isThere_25
    · rw [if_neg c17] at hf
      refine J_const X (1 : Int32) dX6_isThere_20 (by decide) ?_
      refine J_goto (tgt := 25) X dX6_isThere_21 (by decide) ?_
      cases hf
      exact J_zret X rfl dX6_isThere_25
theorem hd_X6_roadsOf : yX6_roadsOf.cls ≠ "java/lang/invoke/MethodHandle" ∧ yX6_roadsOf.cls ≠ "java/lang/invoke/VarHandle" ∧ (parseMethodDescriptor yX6_roadsOf.desc).map (fun d => d.parameters.length) = some 0 := by decide +kernel
set_option maxHeartbeats 4000000 in
set_option maxRecDepth 100000 in
theorem cf_X6_roadsOf_l4 {R : Type} (hA : ∀ h : Hp, va_D A (emb h)) (X : Cx p s m args meth c RX6 cX6_roadsOf 3 (some .int) o)  (hO : isX6 o emb)  (h : Hp) {kx : Int32 → Int32 → Option R} (t : R) : ∀ (n : Nat) (s1 : Int32) (s2 : Int32), f_X6_roadsOf_l4 h kx n s1 s2 = some t → (∀ (s1 : Int32) (s2 : Int32), kx s1 s2 = some t → J p l e (rmf 0 0) s m args below meth c 0 0 Z o emb A H0 3 33 [(1, .int s1)] [] h) → J p l e (rmf 0 0) s m args below meth c 0 0 Z o emb A H0 3 4 [(0, .ref (o.1 0)), (1, .int s1), (2, .int s2)] [] h := by
  intro n
  induction n with
  | zero =>
    intro s1 s2 hf hk
    cases hf
  | succ n ih =>
    intro s1 s2 hf hk
    rw [f_X6_roadsOf_l4] at hf
    refine J_iload_n X 2 dX6_roadsOf_4 rfl rfl ?_
    refine J_bipush X (81 : Int32) dX6_roadsOf_5 (by decide) ?_
    refine J_icmp_ge (tgt := 33) X dX6_roadsOf_7 (by decide) (fun c7 => ?_) (fun c7 => ?_)
    · rw [if_pos c7] at hf
      exact J_sub [1] rfl (hk s1 s2 hf)
    · rw [if_neg c7] at hf
      refine J_iload_n X 1 dX6_roadsOf_10 rfl rfl ?_
      refine J_aload_n X 0 dX6_roadsOf_11 rfl rfl ?_
      refine J_get X hO.1 inX6 rfl 1 (Nat.le_of_ble_eq_true rfl) wd_592 rfl (v := .ref (o.1 2)) rfl dX6_roadsOf_12 ?_
      refine J_iload_n X 2 dX6_roadsOf_15 rfl rfl ?_
      obtain ⟨v1, qv1, hf⟩ := ob hf
      refine J_iald X hO.2.2.1 (ald_s qv1).1 dX6_roadsOf_16 ?_
      refine J_topi v1 (ald_s qv1).2 ?_
      obtain ⟨t3, qt3, hf⟩ := ob hf
      have yk2 : J p l e (rmf 0 0) s m args below meth c 0 0 Z o emb A H0 3 25 [(0, .ref (o.1 0)), (2, .int s2)] [.int t3, .int s1] h := by
        refine J_iadd X dX6_roadsOf_25 ?_
        obtain ⟨v4, qv4, hf⟩ := ob hf
        refine J_topi v4 (Option.some.inj qv4) ?_
        refine J_istore_n X [(1, .int v4), (0, .ref (o.1 0)), (2, .int s2)] dX6_roadsOf_26 rfl (Nat.le_of_ble_eq_true rfl) rfl ?_
        obtain ⟨v5, qv5, hf⟩ := ob hf
        refine J_iinc X 2 [(2, .int v5), (1, .int v4), (0, .ref (o.1 0))] dX6_roadsOf_27 rfl (Option.some.inj qv5) (Nat.le_of_ble_eq_true rfl) rfl ?_
        refine J_goto (tgt := 4) X dX6_roadsOf_30 (by decide) ?_
        exact J_sub [2, 1, 0] rfl (ih v4 v5 hf hk)
      clear hf
      have hf := qt3
      clear qt3
      refine J_if_lt (tgt := 24) X dX6_roadsOf_17 (by decide) (fun c17 => ?_) (fun c17 => ?_)
      · rw [if_pos c17] at hf
        refine J_const X (0 : Int32) dX6_roadsOf_24 (by decide) ?_
        cases hf
        exact J_sub [0, 2] rfl yk2
      · rw [if_neg c17] at hf
        refine J_const X (1 : Int32) dX6_roadsOf_20 (by decide) ?_
        refine J_goto (tgt := 25) X dX6_roadsOf_21 (by decide) ?_
        cases hf
        exact J_sub [0, 2] rfl yk2
set_option maxHeartbeats 4000000 in
set_option maxRecDepth 100000 in
theorem c_X6_roadsOf (l : Launch) (o : Om) (emb : Hp → va_W) (A : Nat → Prop) (hA : ∀ h : Hp, va_D A (emb h)) (hO : isX6 o emb) (h : Hp) (r : Int32) (hf : f_X6_roadsOf h = some r) : Ct l o emb A yX6_roadsOf cX6_roadsOf 3 (some .int) 0 0 [.ref (o.1 0)] h (some (.int r)) h := by
  refine Ct.of RX6 rfl (by decide +kernel) hA (Nat.le_of_ble_eq_true rfl) (fun p e s m args below meth c X => ?_)
  refine J_sub (lo' := [(0, .ref (o.1 0))]) [0] rfl ?_
  rw [f_X6_roadsOf] at hf
  refine J_const X (0 : Int32) dX6_roadsOf_0 (by decide) ?_
  refine J_istore_n X [(1, .int (0 : Int32)), (0, .ref (o.1 0))] dX6_roadsOf_1 rfl (Nat.le_of_ble_eq_true rfl) rfl ?_
  refine J_const X (0 : Int32) dX6_roadsOf_2 (by decide) ?_
  refine J_istore_n X [(2, .int (0 : Int32)), (1, .int (0 : Int32)), (0, .ref (o.1 0))] dX6_roadsOf_3 rfl (Nat.le_of_ble_eq_true rfl) rfl ?_
  refine J_sub (lo' := [(0, .ref (o.1 0)), (1, .int (0 : Int32)), (2, .int (0 : Int32))]) [2, 1, 0] rfl ?_
  refine cf_X6_roadsOf_l4 hA X  hO  h _ _ (0 : Int32) (0 : Int32) hf (fun w6 w7 hf => ?_)
  refine J_iload_n X 0 dX6_roadsOf_33 rfl rfl ?_
  refine J_const X (2 : Int32) dX6_roadsOf_34 (by decide) ?_
  refine J_idiv X dX6_roadsOf_35 (by decide) ?_
  cases hf
  exact J_iret X dX6_roadsOf_36
theorem hd_X6_asNow : yX6_asNow.cls ≠ "java/lang/invoke/MethodHandle" ∧ yX6_asNow.cls ≠ "java/lang/invoke/VarHandle" ∧ (parseMethodDescriptor yX6_asNow.desc).map (fun d => d.parameters.length) = some 0 := by decide +kernel
set_option maxHeartbeats 4000000 in
set_option maxRecDepth 100000 in
theorem cf_X6_asNow_l2 {R : Type} (hA : ∀ h : Hp, va_D A (emb h)) (X : Cx p s m args meth c RX6 cX6_asNow 2 none o)  (hO : isX6 o emb)  {kx : Int32 → Hp → Option R} (t : R) : ∀ (n : Nat) (s1 : Int32) (h : Hp), f_X6_asNow_l2 kx n s1 h = some t → (∀ (s1 : Int32) (h : Hp), kx s1 h = some t → J p l e (rmf 0 0) s m args below meth c 0 0 Z o emb A H0 2 26 [(0, .ref (o.1 0))] [] h) → J p l e (rmf 0 0) s m args below meth c 0 0 Z o emb A H0 2 2 [(0, .ref (o.1 0)), (1, .int s1)] [] h := by
  intro n
  induction n with
  | zero =>
    intro s1 h hf hk
    cases hf
  | succ n ih =>
    intro s1 h hf hk
    rw [f_X6_asNow_l2] at hf
    refine J_iload_n X 1 dX6_asNow_2 rfl rfl ?_
    refine J_bipush X (89 : Int32) dX6_asNow_3 (by decide) ?_
    refine J_icmp_ge (tgt := 26) X dX6_asNow_5 (by decide) (fun c5 => ?_) (fun c5 => ?_)
    · rw [if_pos c5] at hf
      exact J_sub [0] rfl (hk s1 h hf)
    · rw [if_neg c5] at hf
      refine J_aload_n X 0 dX6_asNow_8 rfl rfl ?_
      refine J_get X hO.1 inX6 rfl 1 (Nat.le_of_ble_eq_true rfl) wd_592 rfl (v := .ref (o.1 2)) rfl dX6_asNow_9 ?_
      refine J_iload_n X 1 dX6_asNow_12 rfl rfl ?_
      refine J_aload_n X 0 dX6_asNow_13 rfl rfl ?_
      refine J_get X hO.1 inX6 rfl 0 (Nat.le_of_ble_eq_true rfl) wd_591 rfl (v := .ref (o.1 1)) rfl dX6_asNow_14 ?_
      refine J_iload_n X 1 dX6_asNow_17 rfl rfl ?_
      obtain ⟨v1, qv1, hf⟩ := ob hf
      refine J_iald X hO.2.1 (ald_s qv1).1 dX6_asNow_18 ?_
      refine J_topi v1 (ald_s qv1).2 ?_
      obtain ⟨h2, qh2, hf⟩ := ob hf
      refine J_iast X hO.2.2.1 (ast_s qh2).1 dX6_asNow_19 ?_
      refine J_hp h2 (ast_s qh2).2 ?_
      obtain ⟨v3, qv3, hf⟩ := ob hf
      refine J_iinc X 1 [(1, .int v3), (0, .ref (o.1 0))] dX6_asNow_20 rfl (Option.some.inj qv3) (Nat.le_of_ble_eq_true rfl) rfl ?_
      refine J_goto (tgt := 2) X dX6_asNow_23 (by decide) ?_
      exact J_sub [1, 0] rfl (ih v3 h2 hf hk)
set_option maxHeartbeats 4000000 in
set_option maxRecDepth 100000 in
theorem c_X6_asNow (l : Launch) (o : Om) (emb : Hp → va_W) (A : Nat → Prop) (hA : ∀ h : Hp, va_D A (emb h)) (hO : isX6 o emb) (h : Hp)  (h' : Hp) (hf : f_X6_asNow h = some h') : Ct l o emb A yX6_asNow cX6_asNow 2 none 0 0 [.ref (o.1 0)] h none h' := by
  refine Ct.of RX6 rfl (by decide +kernel) hA (Nat.le_of_ble_eq_true rfl) (fun p e s m args below meth c X => ?_)
  refine J_sub (lo' := [(0, .ref (o.1 0))]) [0] rfl ?_
  rw [f_X6_asNow] at hf
  refine J_const X (0 : Int32) dX6_asNow_0 (by decide) ?_
  refine J_istore_n X [(1, .int (0 : Int32)), (0, .ref (o.1 0))] dX6_asNow_1 rfl (Nat.le_of_ble_eq_true rfl) rfl ?_
  refine J_sub (lo' := [(0, .ref (o.1 0)), (1, .int (0 : Int32))]) [1, 0] rfl ?_
  refine cf_X6_asNow_l2 hA X  hO  _ _ (0 : Int32) h hf (fun w4 h5 hf => ?_)
  refine J_aload_n X 0 dX6_asNow_26 rfl rfl ?_
  refine J_bipush X (-6 : Int32) dX6_asNow_27 (by decide) ?_
  obtain ⟨h6, qh6, hf⟩ := ob hf
  refine J_put X hO.1 inX6 tyX6 tyX6_ok nmX6 rfl 7 (Nat.le_of_ble_eq_true rfl) (by decide) wd_598 rfl rfl (ty := .int) (by decide +kernel) rfl rfl (Nat.le_of_ble_eq_true rfl) dX6_asNow_29 ?_
  refine J_hp h6 (Option.some.inj qh6) ?_
  refine J_aload_n X 0 dX6_asNow_32 rfl rfl ?_
  refine J_bipush X (-6 : Int32) dX6_asNow_33 (by decide) ?_
  obtain ⟨h7, qh7, hf⟩ := ob hf
  refine J_put X hO.1 inX6 tyX6 tyX6_ok nmX6 rfl 8 (Nat.le_of_ble_eq_true rfl) (by decide) wd_599 rfl rfl (ty := .int) (by decide +kernel) rfl rfl (Nat.le_of_ble_eq_true rfl) dX6_asNow_35 ?_
  refine J_hp h7 (Option.some.inj qh7) ?_
  cases hf
  exact J_vret X dX6_asNow_38
theorem hd_X6_road : yX6_road.cls ≠ "java/lang/invoke/MethodHandle" ∧ yX6_road.cls ≠ "java/lang/invoke/VarHandle" ∧ (parseMethodDescriptor yX6_road.desc).map (fun d => d.parameters.length) = some 3 := by decide +kernel
set_option maxHeartbeats 4000000 in
set_option maxRecDepth 100000 in
theorem c_X6_road (l : Launch) (o : Om) (emb : Hp → va_W) (A : Nat → Prop) (hA : ∀ h : Hp, va_D A (emb h)) (hO : isX6 o emb) (x1 : Int32) (x2 : Int32) (x3 : Int32) (h : Hp) (r : Int32) (h' : Hp) (hf : f_X6_road x1 x2 x3 h = some (r, h')) : Ct l o emb A yX6_road cX6_road 4 (some .int) 2 42 [.ref (o.1 0), .int x1, .int x2, .int x3] h (some (.int r)) h' := by
  refine Ct.of RX6 rfl (by decide +kernel) hA (Nat.le_of_ble_eq_true rfl) (fun p e s m args below meth c X => ?_)
  refine J_sub (lo' := [(0, .ref (o.1 0)), (1, .int x1), (2, .int x2), (3, .int x3)]) [0, 1, 2, 3] rfl ?_
  rw [f_X6_road] at hf
  refine J_iload_n X 1 dX6_road_0 rfl rfl ?_
  obtain ⟨v1, qv1, hf⟩ := ob hf
  refine J_callS X (rest := []) (rs := [.int v1]) (c_X6_isPlace l o emb A hA x1 h v1 qv1) wd_657 wd_658 wd_41 wd_659 hd_X6_isPlace ⟨Nat.le_of_ble_eq_true rfl, Nat.le_of_ble_eq_true rfl⟩ ⟨Nat.zero_le _, Nat.zero_le _⟩ (Nat.le_of_ble_eq_true rfl) dX6_road_1 rfl rfl ?_
  refine J_if_eq (tgt := 19) X dX6_road_4 (by decide) (fun c4 => ?_) (fun c4 => ?_)
  · rw [if_pos c4] at hf
    refine J_const X (-1 : Int32) dX6_road_19 (by decide) ?_
    cases hf
    exact J_iret X dX6_road_20
  · rw [if_neg c4] at hf
    refine J_iload_n X 2 dX6_road_7 rfl rfl ?_
    obtain ⟨v2, qv2, hf⟩ := ob hf
    refine J_callS X (rest := []) (rs := [.int v2]) (c_X6_isPlace l o emb A hA x2 h v2 qv2) wd_657 wd_658 wd_41 wd_659 hd_X6_isPlace ⟨Nat.le_of_ble_eq_true rfl, Nat.le_of_ble_eq_true rfl⟩ ⟨Nat.zero_le _, Nat.zero_le _⟩ (Nat.le_of_ble_eq_true rfl) dX6_road_8 rfl rfl ?_
    refine J_if_eq (tgt := 19) X dX6_road_11 (by decide) (fun c11 => ?_) (fun c11 => ?_)
    · rw [if_pos c11] at hf
      refine J_const X (-1 : Int32) dX6_road_19 (by decide) ?_
      cases hf
      exact J_iret X dX6_road_20
    · rw [if_neg c11] at hf
      refine J_iload_n X 1 dX6_road_14 rfl rfl ?_
      refine J_iload_n X 2 dX6_road_15 rfl rfl ?_
      refine J_icmp_ne (tgt := 21) X dX6_road_16 (by decide) (fun c16 => ?_) (fun c16 => ?_)
      · rw [if_neg c16] at hf
        refine J_iload_n X 3 dX6_road_21 rfl rfl ?_
        refine J_const X (-1 : Int32) dX6_road_22 (by decide) ?_
        refine J_bipush X (9 : Int32) dX6_road_23 (by decide) ?_
        obtain ⟨v3, qv3, hf⟩ := ob hf
        refine J_callS X (rest := []) (rs := [.int v3]) (c_X6_in l o emb A hA x3 (-1 : Int32) (9 : Int32) h v3 qv3) wd_660 wd_661 wd_41 wd_662 hd_X6_in ⟨Nat.le_of_ble_eq_true rfl, Nat.le_of_ble_eq_true rfl⟩ ⟨Nat.zero_le _, Nat.zero_le _⟩ (Nat.le_of_ble_eq_true rfl) dX6_road_25 rfl rfl ?_
        refine J_if_ne (tgt := 34) X dX6_road_28 (by decide) (fun c28 => ?_) (fun c28 => ?_)
        · rw [if_neg c28] at hf
          refine J_aload_n X 0 dX6_road_34 rfl rfl ?_
          refine J_get X hO.1 inX6 rfl 0 (Nat.le_of_ble_eq_true rfl) wd_591 rfl (v := .ref (o.1 1)) rfl dX6_road_35 ?_
          refine J_bipush X (9 : Int32) dX6_road_38 (by decide) ?_
          refine J_iload_n X 1 dX6_road_40 rfl rfl ?_
          refine J_imul X dX6_road_41 ?_
          refine J_iload_n X 2 dX6_road_42 rfl rfl ?_
          refine J_iadd X dX6_road_43 ?_
          refine J_iload_n X 3 dX6_road_44 rfl rfl ?_
          obtain ⟨t5, qt5, hf⟩ := ob hf
          have yk4 : J p l e (rmf 2 42) s m args below meth c 0 0 (MQ below (WdQ o emb A (some (.int r)) h') args s 0 0 A) o emb A s.heap 4 54 [(0, .ref (o.1 0)), (1, .int x1), (2, .int x2), (3, .int x3)] [.int t5, .int (((9 : Int32) * x1) + x2), .ref (o.1 1)] h := by
            obtain ⟨h6, qh6, hf⟩ := ob hf
            refine J_iast X hO.2.1 (ast_s qh6).1 dX6_road_54 ?_
            refine J_hp h6 (ast_s qh6).2 ?_
            refine J_aload_n X 0 dX6_road_55 rfl rfl ?_
            refine J_get X hO.1 inX6 rfl 0 (Nat.le_of_ble_eq_true rfl) wd_591 rfl (v := .ref (o.1 1)) rfl dX6_road_56 ?_
            refine J_bipush X (9 : Int32) dX6_road_59 (by decide) ?_
            refine J_iload_n X 2 dX6_road_61 rfl rfl ?_
            refine J_imul X dX6_road_62 ?_
            refine J_iload_n X 1 dX6_road_63 rfl rfl ?_
            refine J_iadd X dX6_road_64 ?_
            refine J_iload_n X 3 dX6_road_65 rfl rfl ?_
            obtain ⟨t8, qt8, hf⟩ := ob hf
            have yk7 : J p l e (rmf 2 42) s m args below meth c 0 0 (MQ below (WdQ o emb A (some (.int r)) h') args s 0 0 A) o emb A s.heap 4 75 [(0, .ref (o.1 0))] [.int t8, .int (((9 : Int32) * x2) + x1), .ref (o.1 1)] h6 := by
              obtain ⟨h9, qh9, hf⟩ := ob hf
              refine J_iast X hO.2.1 (ast_s qh9).1 dX6_road_75 ?_
              refine J_hp h9 (ast_s qh9).2 ?_
              refine J_aload_n X 0 dX6_road_76 rfl rfl ?_
              obtain ⟨h10, qh10, hf⟩ := ob hf
              refine J_callV X (rest := []) (rs := []) (c_X6_asNow l o emb A hA hO h9 h10 qh10) hO.1 rfl rfl wd_663 wd_665 wd_14 wd_41 wd_666 hd_X6_asNow ⟨Nat.le_of_ble_eq_true rfl, Nat.le_of_ble_eq_true rfl⟩ ⟨Nat.zero_le _, Nat.zero_le _⟩ (Nat.le_of_ble_eq_true rfl) dX6_road_77 rfl rfl ?_
              refine J_aload_n X 0 dX6_road_80 rfl rfl ?_
              obtain ⟨v11, qv11, hf⟩ := ob hf
              refine J_callV X (rest := []) (rs := [.int v11]) (c_X6_roadsOf l o emb A hA hO h10 v11 qv11) hO.1 rfl rfl wd_667 wd_669 wd_15 wd_41 wd_670 hd_X6_roadsOf ⟨Nat.le_of_ble_eq_true rfl, Nat.le_of_ble_eq_true rfl⟩ ⟨Nat.zero_le _, Nat.zero_le _⟩ (Nat.le_of_ble_eq_true rfl) dX6_road_81 rfl rfl ?_
              cases hf
              exact J_iret X dX6_road_84
            clear hf
            have hf := qt8
            clear qt8
            refine J_if_ge (tgt := 74) X dX6_road_66 (by decide) (fun c66 => ?_) (fun c66 => ?_)
            · rw [if_pos c66] at hf
              refine J_iload_n X 3 dX6_road_74 rfl rfl ?_
              cases hf
              exact J_sub [0] rfl yk7
            · rw [if_neg c66] at hf
              refine J_bipush X (-6 : Int32) dX6_road_69 (by decide) ?_
              refine J_goto (tgt := 75) X dX6_road_71 (by decide) ?_
              cases hf
              exact J_sub [0] rfl yk7
          clear hf
          have hf := qt5
          clear qt5
          refine J_if_ge (tgt := 53) X dX6_road_45 (by decide) (fun c45 => ?_) (fun c45 => ?_)
          · rw [if_pos c45] at hf
            refine J_iload_n X 3 dX6_road_53 rfl rfl ?_
            cases hf
            exact J_sub [0, 1, 2, 3] rfl yk4
          · rw [if_neg c45] at hf
            refine J_bipush X (-6 : Int32) dX6_road_48 (by decide) ?_
            refine J_goto (tgt := 54) X dX6_road_50 (by decide) ?_
            cases hf
            exact J_sub [0, 1, 2, 3] rfl yk4
        · rw [if_pos c28] at hf
          refine J_bipush X (-2 : Int32) dX6_road_31 (by decide) ?_
          cases hf
          exact J_iret X dX6_road_33
      · rw [if_pos c16] at hf
        refine J_const X (-1 : Int32) dX6_road_19 (by decide) ?_
        cases hf
        exact J_iret X dX6_road_20
theorem hd_X6_walker : yX6_walker.cls ≠ "java/lang/invoke/MethodHandle" ∧ yX6_walker.cls ≠ "java/lang/invoke/VarHandle" ∧ (parseMethodDescriptor yX6_walker.desc).map (fun d => d.parameters.length) = some 3 := by decide +kernel
set_option maxHeartbeats 4000000 in
set_option maxRecDepth 100000 in
theorem c_X6_walker (l : Launch) (o : Om) (emb : Hp → va_W) (A : Nat → Prop) (hA : ∀ h : Hp, va_D A (emb h)) (hO : isX6 o emb) (x1 : Int32) (x2 : Int32) (x3 : Int32) (h : Hp) (r : Int32) (h' : Hp) (hf : f_X6_walker x1 x2 x3 h = some (r, h')) : Ct l o emb A yX6_walker cX6_walker 4 (some .int) 2 42 [.ref (o.1 0), .int x1, .int x2, .int x3] h (some (.int r)) h' := by
  refine Ct.of RX6 rfl (by decide +kernel) hA (Nat.le_of_ble_eq_true rfl) (fun p e s m args below meth c X => ?_)
  refine J_sub (lo' := [(0, .ref (o.1 0)), (1, .int x1), (2, .int x2), (3, .int x3)]) [0, 1, 2, 3] rfl ?_
  rw [f_X6_walker] at hf
  refine J_iload_n X 1 dX6_walker_0 rfl rfl ?_
  refine J_const X (0 : Int32) dX6_walker_1 (by decide) ?_
  refine J_const X (5 : Int32) dX6_walker_2 (by decide) ?_
  obtain ⟨v1, qv1, hf⟩ := ob hf
  refine J_callS X (rest := []) (rs := [.int v1]) (c_X6_in l o emb A hA x1 (0 : Int32) (5 : Int32) h v1 qv1) wd_660 wd_661 wd_41 wd_662 hd_X6_in ⟨Nat.le_of_ble_eq_true rfl, Nat.le_of_ble_eq_true rfl⟩ ⟨Nat.zero_le _, Nat.zero_le _⟩ (Nat.le_of_ble_eq_true rfl) dX6_walker_3 rfl rfl ?_
  refine J_if_eq (tgt := 16) X dX6_walker_6 (by decide) (fun c6 => ?_) (fun c6 => ?_)
  · rw [if_pos c6] at hf
    refine J_const X (-1 : Int32) dX6_walker_16 (by decide) ?_
    cases hf
    exact J_iret X dX6_walker_17
  · rw [if_neg c6] at hf
    refine J_iload_n X 2 dX6_walker_9 rfl rfl ?_
    obtain ⟨v2, qv2, hf⟩ := ob hf
    refine J_callS X (rest := []) (rs := [.int v2]) (c_X6_isPlace l o emb A hA x2 h v2 qv2) wd_657 wd_658 wd_41 wd_659 hd_X6_isPlace ⟨Nat.le_of_ble_eq_true rfl, Nat.le_of_ble_eq_true rfl⟩ ⟨Nat.zero_le _, Nat.zero_le _⟩ (Nat.le_of_ble_eq_true rfl) dX6_walker_10 rfl rfl ?_
    refine J_if_ne (tgt := 18) X dX6_walker_13 (by decide) (fun c13 => ?_) (fun c13 => ?_)
    · rw [if_neg c13] at hf
      refine J_aload_n X 0 dX6_walker_18 rfl rfl ?_
      refine J_dup X dX6_walker_19 rfl ?_
      refine J_get X hO.1 inX6 rfl 2 (Nat.le_of_ble_eq_true rfl) wd_593 rfl (v := .int (h.1 0 2)) rfl dX6_walker_20 ?_
      refine J_const X (1 : Int32) dX6_walker_23 (by decide) ?_
      refine J_iload_n X 1 dX6_walker_24 rfl rfl ?_
      refine J_ishl X dX6_walker_25 ?_
      refine J_ior X dX6_walker_26 ?_
      obtain ⟨h3, qh3, hf⟩ := ob hf
      refine J_put X hO.1 inX6 tyX6 tyX6_ok nmX6 rfl 2 (Nat.le_of_ble_eq_true rfl) (by decide) wd_593 rfl rfl (ty := .int) (by decide +kernel) rfl rfl (Nat.le_of_ble_eq_true rfl) dX6_walker_27 ?_
      refine J_hp h3 (Option.some.inj qh3) ?_
      refine J_aload_n X 0 dX6_walker_30 rfl rfl ?_
      refine J_get X hO.1 inX6 rfl 0 (Nat.le_of_ble_eq_true rfl) wd_591 rfl (v := .ref (o.1 1)) rfl dX6_walker_31 ?_
      refine J_bipush X (81 : Int32) dX6_walker_34 (by decide) ?_
      refine J_iload_n X 1 dX6_walker_36 rfl rfl ?_
      refine J_iadd X dX6_walker_37 ?_
      refine J_iload_n X 2 dX6_walker_38 rfl rfl ?_
      obtain ⟨h4, qh4, hf⟩ := ob hf
      refine J_iast X hO.2.1 (ast_s qh4).1 dX6_walker_39 ?_
      refine J_hp h4 (ast_s qh4).2 ?_
      refine J_aload_n X 0 dX6_walker_40 rfl rfl ?_
      refine J_get X hO.1 inX6 rfl 0 (Nat.le_of_ble_eq_true rfl) wd_591 rfl (v := .ref (o.1 1)) rfl dX6_walker_41 ?_
      refine J_bipush X (87 : Int32) dX6_walker_44 (by decide) ?_
      refine J_dup2 X dX6_walker_46 rfl rfl ?_
      obtain ⟨v5, qv5, hf⟩ := ob hf
      refine J_iald X hO.2.1 (ald_s qv5).1 dX6_walker_47 ?_
      refine J_topi v5 (ald_s qv5).2 ?_
      refine J_const X (1 : Int32) dX6_walker_48 (by decide) ?_
      refine J_iload_n X 1 dX6_walker_49 rfl rfl ?_
      refine J_ishl X dX6_walker_50 ?_
      refine J_const X (-1 : Int32) dX6_walker_51 (by decide) ?_
      refine J_ixor X dX6_walker_52 ?_
      refine J_iand X dX6_walker_53 ?_
      obtain ⟨h6, qh6, hf⟩ := ob hf
      refine J_iast X hO.2.1 (ast_s qh6).1 dX6_walker_54 ?_
      refine J_hp h6 (ast_s qh6).2 ?_
      refine J_aload_n X 0 dX6_walker_55 rfl rfl ?_
      refine J_get X hO.1 inX6 rfl 0 (Nat.le_of_ble_eq_true rfl) wd_591 rfl (v := .ref (o.1 1)) rfl dX6_walker_56 ?_
      refine J_bipush X (87 : Int32) dX6_walker_59 (by decide) ?_
      refine J_dup2 X dX6_walker_61 rfl rfl ?_
      obtain ⟨v7, qv7, hf⟩ := ob hf
      refine J_iald X hO.2.1 (ald_s qv7).1 dX6_walker_62 ?_
      refine J_topi v7 (ald_s qv7).2 ?_
      refine J_iload_n X 3 dX6_walker_63 rfl rfl ?_
      obtain ⟨t9, qt9, hf⟩ := ob hf
      have yk8 : J p l e (rmf 2 42) s m args below meth c 0 0 (MQ below (WdQ o emb A (some (.int r)) h') args s 0 0 A) o emb A s.heap 4 74 [(0, .ref (o.1 0))] [.int t9, .int v7, .int (87 : Int32), .ref (o.1 1)] h6 := by
        refine J_ior X dX6_walker_74 ?_
        obtain ⟨h10, qh10, hf⟩ := ob hf
        refine J_iast X hO.2.1 (ast_s qh10).1 dX6_walker_75 ?_
        refine J_hp h10 (ast_s qh10).2 ?_
        refine J_aload_n X 0 dX6_walker_76 rfl rfl ?_
        refine J_get X hO.1 inX6 rfl 2 (Nat.le_of_ble_eq_true rfl) wd_593 rfl (v := .int (h10.1 0 2)) rfl dX6_walker_77 ?_
        obtain ⟨v11, qv11, hf⟩ := ob hf
        refine J_callS X (rest := []) (rs := [.int v11]) (c_X6_bits l o emb A hA (h10.1 0 2) h10 v11 qv11) wd_675 wd_676 wd_41 wd_677 hd_X6_bits ⟨Nat.le_of_ble_eq_true rfl, Nat.le_of_ble_eq_true rfl⟩ ⟨Nat.zero_le _, Nat.zero_le _⟩ (Nat.le_of_ble_eq_true rfl) dX6_walker_80 rfl rfl ?_
        cases hf
        exact J_iret X dX6_walker_83
      clear hf
      have hf := qt9
      clear qt9
      refine J_if_eq (tgt := 73) X dX6_walker_64 (by decide) (fun c64 => ?_) (fun c64 => ?_)
      · rw [if_pos c64] at hf
        refine J_const X (0 : Int32) dX6_walker_73 (by decide) ?_
        cases hf
        exact J_sub [0] rfl yk8
      · rw [if_neg c64] at hf
        refine J_const X (1 : Int32) dX6_walker_67 (by decide) ?_
        refine J_iload_n X 1 dX6_walker_68 rfl rfl ?_
        refine J_ishl X dX6_walker_69 ?_
        refine J_goto (tgt := 74) X dX6_walker_70 (by decide) ?_
        cases hf
        exact J_sub [0] rfl yk8
    · rw [if_pos c13] at hf
      refine J_const X (-1 : Int32) dX6_walker_16 (by decide) ?_
      cases hf
      exact J_iret X dX6_walker_17
theorem hd_X6_say : yX6_say.cls ≠ "java/lang/invoke/MethodHandle" ∧ yX6_say.cls ≠ "java/lang/invoke/VarHandle" ∧ (parseMethodDescriptor yX6_say.desc).map (fun d => d.parameters.length) = some 1 := by decide +kernel
set_option maxHeartbeats 4000000 in
set_option maxRecDepth 100000 in
theorem c_X6_say (l : Launch) (o : Om) (emb : Hp → va_W) (A : Nat → Prop) (hA : ∀ h : Hp, va_D A (emb h)) (hO : isX6 o emb) (x1 : Int32) (h : Hp) (r : Int32) (h' : Hp) (hf : f_X6_say x1 h = some (r, h')) : Ct l o emb A yX6_say cX6_say 2 (some .int) 1 22 [.ref (o.1 0), .int x1] h (some (.int r)) h' := by
  refine Ct.of RX6 rfl (by decide +kernel) hA (Nat.le_of_ble_eq_true rfl) (fun p e s m args below meth c X => ?_)
  refine J_sub (lo' := [(0, .ref (o.1 0)), (1, .int x1)]) [0, 1] rfl ?_
  rw [f_X6_say] at hf
  refine J_iload_n X 1 dX6_say_0 rfl rfl ?_
  refine J_bipush X (33 : Int32) dX6_say_1 (by decide) ?_
  refine J_bipush X (126 : Int32) dX6_say_3 (by decide) ?_
  obtain ⟨v1, qv1, hf⟩ := ob hf
  refine J_callS X (rest := []) (rs := [.int v1]) (c_X6_in l o emb A hA x1 (33 : Int32) (126 : Int32) h v1 qv1) wd_660 wd_661 wd_41 wd_662 hd_X6_in ⟨Nat.le_of_ble_eq_true rfl, Nat.le_of_ble_eq_true rfl⟩ ⟨Nat.zero_le _, Nat.zero_le _⟩ (Nat.le_of_ble_eq_true rfl) dX6_say_5 rfl rfl ?_
  refine J_if_ne (tgt := 14) X dX6_say_8 (by decide) (fun c8 => ?_) (fun c8 => ?_)
  · rw [if_neg c8] at hf
    refine J_aload_n X 0 dX6_say_14 rfl rfl ?_
    refine J_get X hO.1 inX6 rfl 5 (Nat.le_of_ble_eq_true rfl) wd_596 rfl (v := .int (h.1 0 5)) rfl dX6_say_15 ?_
    refine J_bipush X (60 : Int32) dX6_say_18 (by decide) ?_
    refine J_icmp_ne (tgt := 26) X dX6_say_20 (by decide) (fun c20 => ?_) (fun c20 => ?_)
    · rw [if_neg c20] at hf
      refine J_aload_n X 0 dX6_say_26 rfl rfl ?_
      refine J_get X hO.1 inX6 rfl 6 (Nat.le_of_ble_eq_true rfl) wd_597 rfl (v := .ref (o.1 4)) rfl dX6_say_27 ?_
      refine J_aload_n X 0 dX6_say_30 rfl rfl ?_
      refine J_get X hO.1 inX6 rfl 5 (Nat.le_of_ble_eq_true rfl) wd_596 rfl (v := .int (h.1 0 5)) rfl dX6_say_31 ?_
      refine J_iload_n X 1 dX6_say_34 rfl rfl ?_
      obtain ⟨h2, qh2, hf⟩ := ob hf
      refine J_iast X hO.2.2.2.2.1 (ast_s qh2).1 dX6_say_35 ?_
      refine J_hp h2 (ast_s qh2).2 ?_
      refine J_aload_n X 0 dX6_say_36 rfl rfl ?_
      refine J_dup X dX6_say_37 rfl ?_
      refine J_get X hO.1 inX6 rfl 5 (Nat.le_of_ble_eq_true rfl) wd_596 rfl (v := .int (h2.1 0 5)) rfl dX6_say_38 ?_
      refine J_const X (1 : Int32) dX6_say_41 (by decide) ?_
      refine J_iadd X dX6_say_42 ?_
      obtain ⟨h3, qh3, hf⟩ := ob hf
      refine J_put X hO.1 inX6 tyX6 tyX6_ok nmX6 rfl 5 (Nat.le_of_ble_eq_true rfl) (by decide) wd_596 rfl rfl (ty := .int) (by decide +kernel) rfl rfl (Nat.le_of_ble_eq_true rfl) dX6_say_43 ?_
      refine J_hp h3 (Option.some.inj qh3) ?_
      refine J_aload_n X 0 dX6_say_46 rfl rfl ?_
      refine J_get X hO.1 inX6 rfl 5 (Nat.le_of_ble_eq_true rfl) wd_596 rfl (v := .int (h3.1 0 5)) rfl dX6_say_47 ?_
      cases hf
      exact J_iret X dX6_say_50
    · rw [if_pos c20] at hf
      refine J_bipush X (-4 : Int32) dX6_say_23 (by decide) ?_
      cases hf
      exact J_iret X dX6_say_25
  · rw [if_pos c8] at hf
    refine J_bipush X (-2 : Int32) dX6_say_11 (by decide) ?_
    cases hf
    exact J_iret X dX6_say_13
theorem hd_X6_wipe : yX6_wipe.cls ≠ "java/lang/invoke/MethodHandle" ∧ yX6_wipe.cls ≠ "java/lang/invoke/VarHandle" ∧ (parseMethodDescriptor yX6_wipe.desc).map (fun d => d.parameters.length) = some 0 := by decide +kernel
set_option maxHeartbeats 4000000 in
set_option maxRecDepth 100000 in
theorem c_X6_wipe (l : Launch) (o : Om) (emb : Hp → va_W) (A : Nat → Prop) (hA : ∀ h : Hp, va_D A (emb h)) (hO : isX6 o emb) (h : Hp) (r : Int32) (h' : Hp) (hf : f_X6_wipe h = some (r, h')) : Ct l o emb A yX6_wipe cX6_wipe 2 (some .int) 0 0 [.ref (o.1 0)] h (some (.int r)) h' := by
  refine Ct.of RX6 rfl (by decide +kernel) hA (Nat.le_of_ble_eq_true rfl) (fun p e s m args below meth c X => ?_)
  refine J_sub (lo' := [(0, .ref (o.1 0))]) [0] rfl ?_
  rw [f_X6_wipe] at hf
  refine J_aload_n X 0 dX6_wipe_0 rfl rfl ?_
  refine J_get X hO.1 inX6 rfl 5 (Nat.le_of_ble_eq_true rfl) wd_596 rfl (v := .int (h.1 0 5)) rfl dX6_wipe_1 ?_
  obtain ⟨v1, qv1, hf⟩ := ob hf
  refine J_topi v1 (Option.some.inj qv1) ?_
  refine J_istore_n X [(1, .int v1), (0, .ref (o.1 0))] dX6_wipe_4 rfl (Nat.le_of_ble_eq_true rfl) rfl ?_
  refine J_aload_n X 1 dX6_wipe_5 rfl rfl ?_
  refine J_const X (0 : Int32) dX6_wipe_6 (by decide) ?_
  obtain ⟨h2, qh2, hf⟩ := ob hf
  refine J_put X hO.1 inX6 tyX6 tyX6_ok nmX6 rfl 5 (Nat.le_of_ble_eq_true rfl) (by decide) wd_596 rfl rfl (ty := .int) (by decide +kernel) rfl rfl (Nat.le_of_ble_eq_true rfl) dX6_wipe_7 ?_
  refine J_hp h2 (Option.some.inj qh2) ?_
  refine J_iload_n X 0 dX6_wipe_10 rfl rfl ?_
  cases hf
  exact J_iret X dX6_wipe_11
theorem hd_X6_faultOf : yX6_faultOf.cls ≠ "java/lang/invoke/MethodHandle" ∧ yX6_faultOf.cls ≠ "java/lang/invoke/VarHandle" ∧ (parseMethodDescriptor yX6_faultOf.desc).map (fun d => d.parameters.length) = some 0 := by decide +kernel
set_option maxHeartbeats 4000000 in
set_option maxRecDepth 100000 in
theorem cf_X6_faultOf_l4 (hA : ∀ h : Hp, va_D A (emb h)) (X : Cx p s m args meth c RX6 cX6_faultOf 5 (some .int) o)  (hO : isX6 o emb)  (h : Hp) {kx : Int32 → Int32 → Option Int32} (r : Int32) : ∀ (n : Nat) (s1 : Int32) (s2 : Int32), f_X6_faultOf_l4 h kx n s1 s2 = some r → (∀ (s1 : Int32) (s2 : Int32), kx s1 s2 = some r → J p l e (rmf 1 22) s m args below meth c 0 0 (MQ below (WdQ o emb A (some (.int r)) h) args s 0 0 A) o emb A s.heap 5 125 [(0, .ref (o.1 0)), (1, .int s1)] [] h) → J p l e (rmf 1 22) s m args below meth c 0 0 (MQ below (WdQ o emb A (some (.int r)) h) args s 0 0 A) o emb A s.heap 5 4 [(0, .ref (o.1 0)), (1, .int s1), (2, .int s2)] [] h := by
  intro n
  induction n with
  | zero =>
    intro s1 s2 hf hk
    cases hf
  | succ n ih =>
    intro s1 s2 hf hk
    rw [f_X6_faultOf_l4] at hf
    refine J_iload_n X 2 dX6_faultOf_4 rfl rfl ?_
    refine J_aload_n X 0 dX6_faultOf_5 rfl rfl ?_
    refine J_get X hO.1 inX6 rfl 5 (Nat.le_of_ble_eq_true rfl) wd_596 rfl (v := .int (h.1 0 5)) rfl dX6_faultOf_6 ?_
    refine J_icmp_ge (tgt := 125) X dX6_faultOf_9 (by decide) (fun c9 => ?_) (fun c9 => ?_)
    · rw [if_pos c9] at hf
      exact J_sub [0, 1] rfl (hk s1 s2 hf)
    · rw [if_neg c9] at hf
      refine J_aload_n X 0 dX6_faultOf_12 rfl rfl ?_
      refine J_get X hO.1 inX6 rfl 6 (Nat.le_of_ble_eq_true rfl) wd_597 rfl (v := .ref (o.1 4)) rfl dX6_faultOf_13 ?_
      refine J_iload_n X 2 dX6_faultOf_16 rfl rfl ?_
      obtain ⟨v1, qv1, hf⟩ := ob hf
      refine J_iald X hO.2.2.2.2.1 (ald_s qv1).1 dX6_faultOf_17 ?_
      refine J_topi v1 (ald_s qv1).2 ?_
      refine J_istore_n X [(3, .int v1), (0, .ref (o.1 0)), (1, .int s1), (2, .int s2)] dX6_faultOf_18 rfl (Nat.le_of_ble_eq_true rfl) rfl ?_
      refine J_iload_n X 0 dX6_faultOf_19 rfl rfl ?_
      refine J_bipush X (97 : Int32) dX6_faultOf_20 (by decide) ?_
      refine J_bipush X (105 : Int32) dX6_faultOf_22 (by decide) ?_
      obtain ⟨v2, qv2, hf⟩ := ob hf
      refine J_callS X (rest := []) (rs := [.int v2]) (c_X6_in l o emb A hA v1 (97 : Int32) (105 : Int32) h v2 qv2) wd_660 wd_661 wd_41 wd_662 hd_X6_in ⟨Nat.le_of_ble_eq_true rfl, Nat.le_of_ble_eq_true rfl⟩ ⟨Nat.zero_le _, Nat.zero_le _⟩ (Nat.le_of_ble_eq_true rfl) dX6_faultOf_24 rfl rfl ?_
      refine J_istore X [(4, .int v2), (3, .int v1), (0, .ref (o.1 0)), (1, .int s1), (2, .int s2)] dX6_faultOf_27 (Nat.le_of_ble_eq_true rfl) rfl ?_
      refine J_iload_n X 3 dX6_faultOf_29 rfl rfl ?_
      refine J_if_le (tgt := 46) X dX6_faultOf_30 (by decide) (fun c30 => ?_) (fun c30 => ?_)
      · rw [if_pos c30] at hf
        refine J_iload_n X 3 dX6_faultOf_46 rfl rfl ?_
        refine J_if_ge (tgt := 68) X dX6_faultOf_47 (by decide) (fun c47 => ?_) (fun c47 => ?_)
        · rw [if_pos c47] at hf
          refine J_iload_n X 1 dX6_faultOf_68 rfl rfl ?_
          refine J_bipush X (65 : Int32) dX6_faultOf_69 (by decide) ?_
          refine J_bipush X (70 : Int32) dX6_faultOf_71 (by decide) ?_
          obtain ⟨v3, qv3, hf⟩ := ob hf
          refine J_callS X (rest := []) (rs := [.int v3]) (c_X6_in l o emb A hA v1 (65 : Int32) (70 : Int32) h v3 qv3) wd_660 wd_661 wd_41 wd_662 hd_X6_in ⟨Nat.le_of_ble_eq_true rfl, Nat.le_of_ble_eq_true rfl⟩ ⟨Nat.zero_le _, Nat.zero_le _⟩ (Nat.le_of_ble_eq_true rfl) dX6_faultOf_73 rfl rfl ?_
          refine J_if_eq (tgt := 84) X dX6_faultOf_76 (by decide) (fun c76 => ?_) (fun c76 => ?_)
          · rw [if_pos c76] at hf
            refine J_iload_n X 1 dX6_faultOf_84 rfl rfl ?_
            refine J_bipush X (109 : Int32) dX6_faultOf_85 (by decide) ?_
            obtain ⟨k4, qk4, hf⟩ := jn_s hf
            have yk4 : ∀ (j5 : Int32), k4 j5 = some r → J p l e (rmf 1 22) s m args below meth c 0 0 (MQ below (WdQ o emb A (some (.int r)) h) args s 0 0 A) o emb A s.heap 5 96 [(0, .ref (o.1 0)), (2, .int j5), (3, .int v1)] [] h := by
              intro j5 hf
              rw [qk4] at hf
              try dsimp only at hf
              refine J_iload_n X 2 dX6_faultOf_96 rfl rfl ?_
              refine J_bipush X (109 : Int32) dX6_faultOf_97 (by decide) ?_
              obtain ⟨t7, qt7, hf⟩ := ob hf
              have yk6 : J p l e (rmf 1 22) s m args below meth c 0 0 (MQ below (WdQ o emb A (some (.int r)) h) args s 0 0 A) o emb A s.heap 5 107 [(0, .ref (o.1 0)), (2, .int j5)] [.int t7] h := by
                refine J_istore_n X [(1, .int t7), (0, .ref (o.1 0)), (2, .int j5)] dX6_faultOf_107 rfl (Nat.le_of_ble_eq_true rfl) rfl ?_
                refine J_goto (tgt := 119) X dX6_faultOf_108 (by decide) ?_
                obtain ⟨v8, qv8, hf⟩ := ob hf
                refine J_iinc X 2 [(2, .int v8), (1, .int t7), (0, .ref (o.1 0))] dX6_faultOf_119 rfl (Option.some.inj qv8) (Nat.le_of_ble_eq_true rfl) rfl ?_
                refine J_goto (tgt := 4) X dX6_faultOf_122 (by decide) ?_
                exact J_sub [2, 1, 0] rfl (ih t7 v8 hf hk)
              clear hf
              have hf := qt7
              clear qt7
              refine J_icmp_ne (tgt := 106) X dX6_faultOf_99 (by decide) (fun c99 => ?_) (fun c99 => ?_)
              · rw [if_neg c99] at hf
                refine J_const X (4 : Int32) dX6_faultOf_106 (by decide) ?_
                cases hf
                exact J_sub [0, 1] rfl yk6
              · rw [if_pos c99] at hf
                refine J_const X (2 : Int32) dX6_faultOf_102 (by decide) ?_
                refine J_goto (tgt := 107) X dX6_faultOf_103 (by decide) ?_
                cases hf
                exact J_sub [0, 1] rfl yk6
            refine J_icmp_eq (tgt := 96) X dX6_faultOf_87 (by decide) (fun c87 => ?_) (fun c87 => ?_)
            · rw [if_pos c87] at hf
              exact J_sub [2, 4, 1] rfl (yk4 s2 hf)
            · rw [if_neg c87] at hf
              refine J_iload_n X 1 dX6_faultOf_90 rfl rfl ?_
              refine J_bipush X (112 : Int32) dX6_faultOf_91 (by decide) ?_
              refine J_icmp_ne (tgt := 111) X dX6_faultOf_93 (by decide) (fun c93 => ?_) (fun c93 => ?_)
              · rw [if_neg c93] at hf
                refine J_iload_n X 1 dX6_faultOf_111 rfl rfl ?_
                refine J_bipush X (46 : Int32) dX6_faultOf_112 (by decide) ?_
                refine J_icmp_eq (tgt := 119) X dX6_faultOf_114 (by decide) (fun c114 => ?_) (fun c114 => ?_)
                · rw [if_pos c114] at hf
                  obtain ⟨v9, qv9, hf⟩ := ob hf
                  refine J_iinc X 4 [(2, .int v9), (4, .int v2), (3, .int v1), (0, .ref (o.1 0)), (1, .int s1)] dX6_faultOf_119 rfl (Option.some.inj qv9) (Nat.le_of_ble_eq_true rfl) rfl ?_
                  refine J_goto (tgt := 4) X dX6_faultOf_122 (by decide) ?_
                  exact J_sub [3, 4, 0] rfl (ih s1 v9 hf hk)
                · rw [if_neg c114] at hf
                  refine J_iload_n X 4 dX6_faultOf_117 rfl rfl ?_
                  cases hf
                  exact J_iret X dX6_faultOf_118
              · rw [if_pos c93] at hf
                exact J_sub [2, 4, 1] rfl (yk4 s2 hf)
          · rw [if_neg c76] at hf
            refine J_const X (-1 : Int32) dX6_faultOf_79 (by decide) ?_
            refine J_istore_n X [(1, .int (-1 : Int32)), (4, .int v2), (3, .int v1), (0, .ref (o.1 0)), (2, .int s2)] dX6_faultOf_80 rfl (Nat.le_of_ble_eq_true rfl) rfl ?_
            refine J_goto (tgt := 119) X dX6_faultOf_81 (by decide) ?_
            obtain ⟨v10, qv10, hf⟩ := ob hf
            refine J_iinc X 4 [(2, .int v10), (1, .int (-1 : Int32)), (4, .int v2), (3, .int v1), (0, .ref (o.1 0))] dX6_faultOf_119 rfl (Option.some.inj qv10) (Nat.le_of_ble_eq_true rfl) rfl ?_
            refine J_goto (tgt := 4) X dX6_faultOf_122 (by decide) ?_
            exact J_sub [4, 1, 0] rfl (ih (-1 : Int32) v10 hf hk)
        · rw [if_neg c47] at hf
          refine J_iload X 0 dX6_faultOf_50 rfl ?_
          obtain ⟨k11, qk11, hf⟩ := jn_s hf
          have yk11 : ∀ (_u : Unit), k11 _u = some r → J p l e (rmf 1 22) s m args below meth c 0 0 (MQ below (WdQ o emb A (some (.int r)) h) args s 0 0 A) o emb A s.heap 5 63 [(0, .ref (o.1 0)), (2, .int s2)] [] h := by
            intro _u hf
            rw [qk11] at hf
            try dsimp only at hf
            refine J_const X (0 : Int32) dX6_faultOf_63 (by decide) ?_
            refine J_istore_n X [(1, .int (0 : Int32)), (0, .ref (o.1 0)), (2, .int s2)] dX6_faultOf_64 rfl (Nat.le_of_ble_eq_true rfl) rfl ?_
            refine J_goto (tgt := 119) X dX6_faultOf_65 (by decide) ?_
            obtain ⟨v12, qv12, hf⟩ := ob hf
            refine J_iinc X 2 [(2, .int v12), (1, .int (0 : Int32)), (0, .ref (o.1 0))] dX6_faultOf_119 rfl (Option.some.inj qv12) (Nat.le_of_ble_eq_true rfl) rfl ?_
            refine J_goto (tgt := 4) X dX6_faultOf_122 (by decide) ?_
            exact J_sub [2, 1, 0] rfl (ih (0 : Int32) v12 hf hk)
          refine J_if_ne (tgt := 63) X dX6_faultOf_52 (by decide) (fun c52 => ?_) (fun c52 => ?_)
          · rw [if_neg c52] at hf
            exact J_sub [2, 4] rfl (yk11 () hf)
          · rw [if_pos c52] at hf
            refine J_iload_n X 1 dX6_faultOf_55 rfl rfl ?_
            refine J_bipush X (94 : Int32) dX6_faultOf_56 (by decide) ?_
            refine J_icmp_eq (tgt := 63) X dX6_faultOf_58 (by decide) (fun c58 => ?_) (fun c58 => ?_)
            · rw [if_pos c58] at hf
              exact J_sub [2, 4] rfl (yk11 () hf)
            · rw [if_neg c58] at hf
              refine J_iload_n X 4 dX6_faultOf_61 rfl rfl ?_
              cases hf
              exact J_iret X dX6_faultOf_62
      · rw [if_neg c30] at hf
        refine J_iload X 0 dX6_faultOf_33 rfl ?_
        refine J_if_ne (tgt := 40) X dX6_faultOf_35 (by decide) (fun c35 => ?_) (fun c35 => ?_)
        · rw [if_neg c35] at hf
          obtain ⟨v13, qv13, hf⟩ := ob hf
          refine J_iinc X 3 [(1, .int v13), (4, .int v2), (3, .int v1), (0, .ref (o.1 0)), (2, .int s2)] dX6_faultOf_40 rfl (Option.some.inj qv13) (Nat.le_of_ble_eq_true rfl) rfl ?_
          refine J_goto (tgt := 119) X dX6_faultOf_43 (by decide) ?_
          obtain ⟨v14, qv14, hf⟩ := ob hf
          refine J_iinc X 4 [(2, .int v14), (1, .int v13), (4, .int v2), (3, .int v1), (0, .ref (o.1 0))] dX6_faultOf_119 rfl (Option.some.inj qv14) (Nat.le_of_ble_eq_true rfl) rfl ?_
          refine J_goto (tgt := 4) X dX6_faultOf_122 (by decide) ?_
          exact J_sub [4, 1, 0] rfl (ih v13 v14 hf hk)
        · rw [if_pos c35] at hf
          refine J_iload_n X 4 dX6_faultOf_38 rfl rfl ?_
          cases hf
          exact J_iret X dX6_faultOf_39
set_option maxHeartbeats 4000000 in
set_option maxRecDepth 100000 in
theorem c_X6_faultOf (l : Launch) (o : Om) (emb : Hp → va_W) (A : Nat → Prop) (hA : ∀ h : Hp, va_D A (emb h)) (hO : isX6 o emb) (h : Hp) (r : Int32) (hf : f_X6_faultOf h = some r) : Ct l o emb A yX6_faultOf cX6_faultOf 5 (some .int) 1 22 [.ref (o.1 0)] h (some (.int r)) h := by
  refine Ct.of RX6 rfl (by decide +kernel) hA (Nat.le_of_ble_eq_true rfl) (fun p e s m args below meth c X => ?_)
  refine J_sub (lo' := [(0, .ref (o.1 0))]) [0] rfl ?_
  rw [f_X6_faultOf] at hf
  refine J_const X (0 : Int32) dX6_faultOf_0 (by decide) ?_
  refine J_istore_n X [(1, .int (0 : Int32)), (0, .ref (o.1 0))] dX6_faultOf_1 rfl (Nat.le_of_ble_eq_true rfl) rfl ?_
  refine J_const X (0 : Int32) dX6_faultOf_2 (by decide) ?_
  refine J_istore_n X [(2, .int (0 : Int32)), (1, .int (0 : Int32)), (0, .ref (o.1 0))] dX6_faultOf_3 rfl (Nat.le_of_ble_eq_true rfl) rfl ?_
  refine J_sub (lo' := [(0, .ref (o.1 0)), (1, .int (0 : Int32)), (2, .int (0 : Int32))]) [2, 1, 0] rfl ?_
  refine cf_X6_faultOf_l4 hA X  hO  h r _ (0 : Int32) (0 : Int32) hf (fun w15 w16 hf => ?_)
  refine J_iload_n X 1 dX6_faultOf_125 rfl rfl ?_
  refine J_if_ne (tgt := 134) X dX6_faultOf_126 (by decide) (fun c126 => ?_) (fun c126 => ?_)
  · rw [if_neg c126] at hf
    refine J_aload_n X 0 dX6_faultOf_134 rfl rfl ?_
    refine J_get X hO.1 inX6 rfl 5 (Nat.le_of_ble_eq_true rfl) wd_596 rfl (v := .int (h.1 0 5)) rfl dX6_faultOf_135 ?_
    cases hf
    exact J_iret X dX6_faultOf_138
  · rw [if_pos c126] at hf
    refine J_bipush X (-6 : Int32) dX6_faultOf_129 (by decide) ?_
    refine J_goto (tgt := 138) X dX6_faultOf_131 (by decide) ?_
    cases hf
    exact J_iret X dX6_faultOf_138
theorem hd_X6_fault : yX6_fault.cls ≠ "java/lang/invoke/MethodHandle" ∧ yX6_fault.cls ≠ "java/lang/invoke/VarHandle" ∧ (parseMethodDescriptor yX6_fault.desc).map (fun d => d.parameters.length) = some 0 := by decide +kernel
set_option maxHeartbeats 4000000 in
set_option maxRecDepth 100000 in
theorem c_X6_fault (l : Launch) (o : Om) (emb : Hp → va_W) (A : Nat → Prop) (hA : ∀ h : Hp, va_D A (emb h)) (hO : isX6 o emb) (h : Hp) (r : Int32) (hf : f_X6_fault h = some r) : Ct l o emb A yX6_fault cX6_fault 1 (some .int) 2 46 [.ref (o.1 0)] h (some (.int r)) h := by
  refine Ct.of RX6 rfl (by decide +kernel) hA (Nat.le_of_ble_eq_true rfl) (fun p e s m args below meth c X => ?_)
  refine J_sub (lo' := [(0, .ref (o.1 0))]) [0] rfl ?_
  rw [f_X6_fault] at hf
  refine J_aload_n X 0 dX6_fault_0 rfl rfl ?_
  obtain ⟨v1, qv1, hf⟩ := ob hf
  refine J_callV X (rest := []) (rs := [.int v1]) (c_X6_faultOf l o emb A hA hO h v1 qv1) hO.1 rfl rfl wd_690 wd_692 wd_16 wd_41 wd_693 hd_X6_faultOf ⟨Nat.le_of_ble_eq_true rfl, Nat.le_of_ble_eq_true rfl⟩ ⟨Nat.zero_le _, Nat.zero_le _⟩ (Nat.le_of_ble_eq_true rfl) dX6_fault_1 rfl rfl ?_
  cases hf
  exact J_iret X dX6_fault_4
theorem hd_X6_lay : yX6_lay.cls ≠ "java/lang/invoke/MethodHandle" ∧ yX6_lay.cls ≠ "java/lang/invoke/VarHandle" ∧ (parseMethodDescriptor yX6_lay.desc).map (fun d => d.parameters.length) = some 3 := by decide +kernel
set_option maxHeartbeats 4000000 in
set_option maxRecDepth 100000 in
theorem c_X6_lay (l : Launch) (o : Om) (emb : Hp → va_W) (A : Nat → Prop) (hA : ∀ h : Hp, va_D A (emb h)) (hO : isX6 o emb) (x1 : Int32) (x2 : Int32) (x3 : Int32) (h : Hp)  (h' : Hp) (hf : f_X6_lay x1 x2 x3 h = some h') : Ct l o emb A yX6_lay cX6_lay 4 none 0 0 [.ref (o.1 0), .int x1, .int x2, .int x3] h none h' := by
  refine Ct.of RX6 rfl (by decide +kernel) hA (Nat.le_of_ble_eq_true rfl) (fun p e s m args below meth c X => ?_)
  refine J_sub (lo' := [(0, .ref (o.1 0)), (1, .int x1), (2, .int x2), (3, .int x3)]) [0, 1, 2, 3] rfl ?_
  rw [f_X6_lay] at hf
  refine J_aload_n X 0 dX6_lay_0 rfl rfl ?_
  refine J_get X hO.1 inX6 rfl 1 (Nat.le_of_ble_eq_true rfl) wd_592 rfl (v := .ref (o.1 2)) rfl dX6_lay_1 ?_
  refine J_bipush X (9 : Int32) dX6_lay_4 (by decide) ?_
  refine J_iload_n X 1 dX6_lay_6 rfl rfl ?_
  refine J_imul X dX6_lay_7 ?_
  refine J_iload_n X 2 dX6_lay_8 rfl rfl ?_
  refine J_iadd X dX6_lay_9 ?_
  refine J_iload_n X 3 dX6_lay_10 rfl rfl ?_
  obtain ⟨h1, qh1, hf⟩ := ob hf
  refine J_iast X hO.2.2.1 (ast_s qh1).1 dX6_lay_11 ?_
  refine J_hp h1 (ast_s qh1).2 ?_
  refine J_aload_n X 0 dX6_lay_12 rfl rfl ?_
  refine J_get X hO.1 inX6 rfl 1 (Nat.le_of_ble_eq_true rfl) wd_592 rfl (v := .ref (o.1 2)) rfl dX6_lay_13 ?_
  refine J_bipush X (9 : Int32) dX6_lay_16 (by decide) ?_
  refine J_iload_n X 2 dX6_lay_18 rfl rfl ?_
  refine J_imul X dX6_lay_19 ?_
  refine J_iload_n X 1 dX6_lay_20 rfl rfl ?_
  refine J_iadd X dX6_lay_21 ?_
  refine J_iload_n X 3 dX6_lay_22 rfl rfl ?_
  obtain ⟨h2, qh2, hf⟩ := ob hf
  refine J_iast X hO.2.2.1 (ast_s qh2).1 dX6_lay_23 ?_
  refine J_hp h2 (ast_s qh2).2 ?_
  cases hf
  exact J_vret X dX6_lay_24
theorem hd_X6_barOf : yX6_barOf.cls ≠ "java/lang/invoke/MethodHandle" ∧ yX6_barOf.cls ≠ "java/lang/invoke/VarHandle" ∧ (parseMethodDescriptor yX6_barOf.desc).map (fun d => d.parameters.length) = some 2 := by decide +kernel
set_option maxHeartbeats 4000000 in
set_option maxRecDepth 100000 in
theorem c_X6_barOf (l : Launch) (o : Om) (emb : Hp → va_W) (A : Nat → Prop) (hA : ∀ h : Hp, va_D A (emb h)) (hO : isX6 o emb) (x1 : Int32) (x2 : Int32) (h : Hp) (r : Int32) (hf : f_X6_barOf x1 x2 h = some r) : Ct l o emb A yX6_barOf cX6_barOf 4 (some .int) 0 0 [.ref (o.1 0), .int x1, .int x2] h (some (.int r)) h := by
  refine Ct.of RX6 rfl (by decide +kernel) hA (Nat.le_of_ble_eq_true rfl) (fun p e s m args below meth c X => ?_)
  refine J_sub (lo' := [(0, .ref (o.1 0)), (1, .int x1), (2, .int x2)]) [0, 1, 2] rfl ?_
  rw [f_X6_barOf] at hf
  refine J_aload_n X 0 dX6_barOf_0 rfl rfl ?_
  refine J_get X hO.1 inX6 rfl 1 (Nat.le_of_ble_eq_true rfl) wd_592 rfl (v := .ref (o.1 2)) rfl dX6_barOf_1 ?_
  refine J_bipush X (9 : Int32) dX6_barOf_4 (by decide) ?_
  refine J_iload_n X 1 dX6_barOf_6 rfl rfl ?_
  refine J_imul X dX6_barOf_7 ?_
  refine J_iload_n X 2 dX6_barOf_8 rfl rfl ?_
  refine J_iadd X dX6_barOf_9 ?_
  obtain ⟨v1, qv1, hf⟩ := ob hf
  refine J_iald X hO.2.2.1 (ald_s qv1).1 dX6_barOf_10 ?_
  refine J_topi v1 (ald_s qv1).2 ?_
  refine J_istore_n X [(3, .int v1), (0, .ref (o.1 0)), (1, .int x1), (2, .int x2)] dX6_barOf_11 rfl (Nat.le_of_ble_eq_true rfl) rfl ?_
  refine J_iload_n X 0 dX6_barOf_12 rfl rfl ?_
  refine J_if_ge (tgt := 20) X dX6_barOf_13 (by decide) (fun c13 => ?_) (fun c13 => ?_)
  · rw [if_pos c13] at hf
    refine J_iload_n X 0 dX6_barOf_20 rfl rfl ?_
    refine J_bipush X (99 : Int32) dX6_barOf_21 (by decide) ?_
    refine J_icmp_le (tgt := 30) X dX6_barOf_23 (by decide) (fun c23 => ?_) (fun c23 => ?_)
    · rw [if_pos c23] at hf
      refine J_const X (0 : Int32) dX6_barOf_30 (by decide) ?_
      cases hf
      exact J_iret X dX6_barOf_31
    · rw [if_neg c23] at hf
      refine J_const X (4 : Int32) dX6_barOf_26 (by decide) ?_
      refine J_goto (tgt := 31) X dX6_barOf_27 (by decide) ?_
      cases hf
      exact J_iret X dX6_barOf_31
  · rw [if_neg c13] at hf
    refine J_const X (3 : Int32) dX6_barOf_16 (by decide) ?_
    refine J_goto (tgt := 31) X dX6_barOf_17 (by decide) ?_
    cases hf
    exact J_iret X dX6_barOf_31
theorem hd_X6_walk : yX6_walk.cls ≠ "java/lang/invoke/MethodHandle" ∧ yX6_walk.cls ≠ "java/lang/invoke/VarHandle" ∧ (parseMethodDescriptor yX6_walk.desc).map (fun d => d.parameters.length) = some 2 := by decide +kernel
set_option maxHeartbeats 4000000 in
set_option maxRecDepth 100000 in
theorem c_X6_walk (l : Launch) (o : Om) (emb : Hp → va_W) (A : Nat → Prop) (hA : ∀ h : Hp, va_D A (emb h)) (hO : isX6 o emb) (x1 : Int32) (x2 : Int32) (h : Hp) (r : Int32) (h' : Hp) (hf : f_X6_walk x1 x2 h = some (r, h')) : Ct l o emb A yX6_walk cX6_walk 6 (some .int) 2 43 [.ref (o.1 0), .int x1, .int x2] h (some (.int r)) h' := by
  refine Ct.of RX6 rfl (by decide +kernel) hA (Nat.le_of_ble_eq_true rfl) (fun p e s m args below meth c X => ?_)
  refine J_sub (lo' := [(0, .ref (o.1 0)), (1, .int x1), (2, .int x2)]) [0, 1, 2] rfl ?_
  rw [f_X6_walk] at hf
  refine J_aload_n X 0 dX6_walk_0 rfl rfl ?_
  refine J_iload_n X 1 dX6_walk_1 rfl rfl ?_
  obtain ⟨v1, qv1, hf⟩ := ob hf
  refine J_callV X (rest := []) (rs := [.int v1]) (c_X6_isThere l o emb A hA hO x1 h v1 qv1) hO.1 rfl rfl wd_726 wd_728 wd_24 wd_41 wd_729 hd_X6_isThere ⟨Nat.le_of_ble_eq_true rfl, Nat.le_of_ble_eq_true rfl⟩ ⟨Nat.zero_le _, Nat.zero_le _⟩ (Nat.le_of_ble_eq_true rfl) dX6_walk_2 rfl rfl ?_
  refine J_if_ne (tgt := 10) X dX6_walk_5 (by decide) (fun c5 => ?_) (fun c5 => ?_)
  · rw [if_neg c5] at hf
    refine J_aload_n X 0 dX6_walk_10 rfl rfl ?_
    refine J_get X hO.1 inX6 rfl 1 (Nat.le_of_ble_eq_true rfl) wd_592 rfl (v := .ref (o.1 2)) rfl dX6_walk_11 ?_
    refine J_bipush X (81 : Int32) dX6_walk_14 (by decide) ?_
    refine J_iload_n X 1 dX6_walk_16 rfl rfl ?_
    refine J_iadd X dX6_walk_17 ?_
    obtain ⟨v2, qv2, hf⟩ := ob hf
    refine J_iald X hO.2.2.1 (ald_s qv2).1 dX6_walk_18 ?_
    refine J_topi v2 (ald_s qv2).2 ?_
    refine J_istore_n X [(3, .int v2), (0, .ref (o.1 0)), (1, .int x1), (2, .int x2)] dX6_walk_19 rfl (Nat.le_of_ble_eq_true rfl) rfl ?_
    refine J_iload_n X 0 dX6_walk_20 rfl rfl ?_
    refine J_iload_n X 3 dX6_walk_21 rfl rfl ?_
    refine J_icmp_ne (tgt := 27) X dX6_walk_22 (by decide) (fun c22 => ?_) (fun c22 => ?_)
    · rw [if_neg c22] at hf
      refine J_aload_n X 1 dX6_walk_27 rfl rfl ?_
      refine J_iload_n X 0 dX6_walk_28 rfl rfl ?_
      refine J_iload_n X 3 dX6_walk_29 rfl rfl ?_
      obtain ⟨v3, qv3, hf⟩ := ob hf
      refine J_callV X (rest := []) (rs := [.int v3]) (c_X6_barOf l o emb A hA hO v2 x2 h v3 qv3) hO.1 rfl rfl wd_710 wd_712 wd_20 wd_41 wd_713 hd_X6_barOf ⟨Nat.le_of_ble_eq_true rfl, Nat.le_of_ble_eq_true rfl⟩ ⟨Nat.zero_le _, Nat.zero_le _⟩ (Nat.le_of_ble_eq_true rfl) dX6_walk_30 rfl rfl ?_
      refine J_istore X [(4, .int v3), (3, .int v2), (0, .ref (o.1 0)), (1, .int x1), (2, .int x2)] dX6_walk_33 (Nat.le_of_ble_eq_true rfl) rfl ?_
      refine J_aload_n X 2 dX6_walk_35 rfl rfl ?_
      refine J_get X hO.1 inX6 rfl 1 (Nat.le_of_ble_eq_true rfl) wd_592 rfl (v := .ref (o.1 2)) rfl dX6_walk_36 ?_
      refine J_bipush X (9 : Int32) dX6_walk_39 (by decide) ?_
      refine J_iload_n X 1 dX6_walk_41 rfl rfl ?_
      refine J_imul X dX6_walk_42 ?_
      refine J_iload_n X 4 dX6_walk_43 rfl rfl ?_
      refine J_iadd X dX6_walk_44 ?_
      obtain ⟨v4, qv4, hf⟩ := ob hf
      refine J_iald X hO.2.2.1 (ald_s qv4).1 dX6_walk_45 ?_
      refine J_topi v4 (ald_s qv4).2 ?_
      refine J_istore X [(5, .int v4), (4, .int v3), (3, .int v2), (0, .ref (o.1 0)), (1, .int x1), (2, .int x2)] dX6_walk_46 (Nat.le_of_ble_eq_true rfl) rfl ?_
      refine J_iload X 1 dX6_walk_48 rfl ?_
      obtain ⟨k5, qk5, hf⟩ := jn_s hf
      have yk5 : ∀ (j6 : Hp), k5 j6 = some (r, h') → J p l e (rmf 2 43) s m args below meth c 0 0 (MQ below (WdQ o emb A (some (.int r)) h') args s 0 0 A) o emb A s.heap 6 60 [(4, .int v3)] [] j6 := by
        intro j6 hf
        rw [qk5] at hf
        try dsimp only at hf
        refine J_iload X 0 dX6_walk_60 rfl ?_
        refine J_if_le (tgt := 70) X dX6_walk_62 (by decide) (fun c62 => ?_) (fun c62 => ?_)
        · rw [if_pos c62] at hf
          refine J_const X (5 : Int32) dX6_walk_70 (by decide) ?_
          cases hf
          exact J_iret X dX6_walk_71
        · rw [if_neg c62] at hf
          refine J_iload X 0 dX6_walk_65 rfl ?_
          refine J_goto (tgt := 71) X dX6_walk_67 (by decide) ?_
          cases hf
          exact J_iret X dX6_walk_71
      refine J_if_gt (tgt := 60) X dX6_walk_50 (by decide) (fun c50 => ?_) (fun c50 => ?_)
      · rw [if_pos c50] at hf
        exact J_sub [1] rfl (yk5 h hf)
      · rw [if_neg c50] at hf
        refine J_iload X 0 dX6_walk_53 rfl ?_
        refine J_bipush X (9 : Int32) dX6_walk_55 (by decide) ?_
        refine J_icmp_ne (tgt := 72) X dX6_walk_57 (by decide) (fun c57 => ?_) (fun c57 => ?_)
        · rw [if_neg c57] at hf
          refine J_iload X 0 dX6_walk_72 rfl ?_
          refine J_aload_n X 3 dX6_walk_74 rfl rfl ?_
          refine J_get X hO.1 inX6 rfl 1 (Nat.le_of_ble_eq_true rfl) wd_592 rfl (v := .ref (o.1 2)) rfl dX6_walk_75 ?_
          refine J_bipush X (87 : Int32) dX6_walk_78 (by decide) ?_
          obtain ⟨v7, qv7, hf⟩ := ob hf
          refine J_iald X hO.2.2.1 (ald_s qv7).1 dX6_walk_80 ?_
          refine J_topi v7 (ald_s qv7).2 ?_
          refine J_iload_n X 4 dX6_walk_81 rfl rfl ?_
          obtain ⟨v8, qv8, hf⟩ := ob hf
          refine J_callS X (rest := [.int v4]) (rs := [.int v8, .int v4]) (c_X6_has l o emb A hA v7 x1 h v8 qv8) wd_730 wd_731 wd_41 wd_732 hd_X6_has ⟨Nat.le_of_ble_eq_true rfl, Nat.le_of_ble_eq_true rfl⟩ ⟨Nat.zero_le _, Nat.zero_le _⟩ (Nat.le_of_ble_eq_true rfl) dX6_walk_82 rfl rfl ?_
          obtain ⟨t10, qt10, hf⟩ := ob hf
          have yk9 : J p l e (rmf 2 43) s m args below meth c 0 0 (MQ below (WdQ o emb A (some (.int r)) h') args s 0 0 A) o emb A s.heap 6 93 [(0, .ref (o.1 0)), (1, .int x1), (2, .int x2), (3, .int v2)] [.int t10, .int v4] h := by
            refine J_iadd X dX6_walk_93 ?_
            obtain ⟨v11, qv11, hf⟩ := ob hf
            refine J_topi v11 (Option.some.inj qv11) ?_
            refine J_istore X [(5, .int v11), (0, .ref (o.1 0)), (1, .int x1), (2, .int x2), (3, .int v2)] dX6_walk_94 (Nat.le_of_ble_eq_true rfl) rfl ?_
            refine J_aload_n X 1 dX6_walk_96 rfl rfl ?_
            refine J_iload_n X 4 dX6_walk_97 rfl rfl ?_
            refine J_iload_n X 3 dX6_walk_98 rfl rfl ?_
            refine J_iload X 0 dX6_walk_99 rfl ?_
            refine J_bipush X (9 : Int32) dX6_walk_101 (by decide) ?_
            obtain ⟨t13, qt13, hf⟩ := ob hf
            have yk12 : J p l e (rmf 2 43) s m args below meth c 0 0 (MQ below (WdQ o emb A (some (.int r)) h') args s 0 0 A) o emb A s.heap 6 113 [(0, .ref (o.1 0)), (1, .int x1), (2, .int x2)] [.int t13, .int x2, .int v2, .ref (o.1 0)] h := by
              obtain ⟨h14, qh14, hf⟩ := ob hf
              refine J_callV X (rest := []) (rs := []) (c_X6_lay l o emb A hA hO v2 x2 t13 h h14 qh14) hO.1 rfl rfl wd_714 wd_716 wd_21 wd_41 wd_717 hd_X6_lay ⟨Nat.le_of_ble_eq_true rfl, Nat.le_of_ble_eq_true rfl⟩ ⟨Nat.zero_le _, Nat.zero_le _⟩ (Nat.le_of_ble_eq_true rfl) dX6_walk_113 rfl rfl ?_
              refine J_aload_n X 0 dX6_walk_116 rfl rfl ?_
              refine J_get X hO.1 inX6 rfl 1 (Nat.le_of_ble_eq_true rfl) wd_592 rfl (v := .ref (o.1 2)) rfl dX6_walk_117 ?_
              refine J_bipush X (81 : Int32) dX6_walk_120 (by decide) ?_
              refine J_iload_n X 1 dX6_walk_122 rfl rfl ?_
              refine J_iadd X dX6_walk_123 ?_
              refine J_iload_n X 2 dX6_walk_124 rfl rfl ?_
              obtain ⟨h15, qh15, hf⟩ := ob hf
              refine J_iast X hO.2.2.1 (ast_s qh15).1 dX6_walk_125 ?_
              refine J_hp h15 (ast_s qh15).2 ?_
              refine J_const X (0 : Int32) dX6_walk_126 (by decide) ?_
              cases hf
              exact J_iret X dX6_walk_127
            clear hf
            have hf := qt13
            clear qt13
            refine J_icmp_le (tgt := 111) X dX6_walk_103 (by decide) (fun c103 => ?_) (fun c103 => ?_)
            · rw [if_pos c103] at hf
              refine J_iload X 0 dX6_walk_111 rfl ?_
              cases hf
              exact J_sub [1, 2, 3] rfl yk12
            · rw [if_neg c103] at hf
              refine J_bipush X (9 : Int32) dX6_walk_106 (by decide) ?_
              refine J_goto (tgt := 113) X dX6_walk_108 (by decide) ?_
              cases hf
              exact J_sub [1, 2, 3] rfl yk12
          clear hf
          have hf := qt10
          clear qt10
          refine J_if_eq (tgt := 92) X dX6_walk_85 (by decide) (fun c85 => ?_) (fun c85 => ?_)
          · rw [if_pos c85] at hf
            refine J_const X (1 : Int32) dX6_walk_92 (by decide) ?_
            cases hf
            exact J_sub [3, 4, 5, 2] rfl yk9
          · rw [if_neg c85] at hf
            refine J_const X (2 : Int32) dX6_walk_88 (by decide) ?_
            refine J_goto (tgt := 93) X dX6_walk_89 (by decide) ?_
            cases hf
            exact J_sub [3, 4, 5, 2] rfl yk9
        · rw [if_pos c57] at hf
          exact J_sub [1] rfl (yk5 h hf)
    · rw [if_pos c22] at hf
      refine J_const X (2 : Int32) dX6_walk_25 (by decide) ?_
      cases hf
      exact J_iret X dX6_walk_26
  · rw [if_pos c5] at hf
    refine J_const X (1 : Int32) dX6_walk_8 (by decide) ?_
    cases hf
    exact J_iret X dX6_walk_9
theorem hd_X6_shoe : yX6_shoe.cls ≠ "java/lang/invoke/MethodHandle" ∧ yX6_shoe.cls ≠ "java/lang/invoke/VarHandle" ∧ (parseMethodDescriptor yX6_shoe.desc).map (fun d => d.parameters.length) = some 1 := by decide +kernel
set_option maxHeartbeats 4000000 in
set_option maxRecDepth 100000 in
theorem c_X6_shoe (l : Launch) (o : Om) (emb : Hp → va_W) (A : Nat → Prop) (hA : ∀ h : Hp, va_D A (emb h)) (hO : isX6 o emb) (x1 : Int32) (h : Hp) (r : Int32) (h' : Hp) (hf : f_X6_shoe x1 h = some (r, h')) : Ct l o emb A yX6_shoe cX6_shoe 2 (some .int) 2 43 [.ref (o.1 0), .int x1] h (some (.int r)) h' := by
  refine Ct.of RX6 rfl (by decide +kernel) hA (Nat.le_of_ble_eq_true rfl) (fun p e s m args below meth c X => ?_)
  refine J_sub (lo' := [(0, .ref (o.1 0)), (1, .int x1)]) [0, 1] rfl ?_
  rw [f_X6_shoe] at hf
  refine J_aload_n X 0 dX6_shoe_0 rfl rfl ?_
  refine J_iload_n X 1 dX6_shoe_1 rfl rfl ?_
  obtain ⟨v1, qv1, hf⟩ := ob hf
  refine J_callV X (rest := []) (rs := [.int v1]) (c_X6_isThere l o emb A hA hO x1 h v1 qv1) hO.1 rfl rfl wd_726 wd_728 wd_24 wd_41 wd_729 hd_X6_isThere ⟨Nat.le_of_ble_eq_true rfl, Nat.le_of_ble_eq_true rfl⟩ ⟨Nat.zero_le _, Nat.zero_le _⟩ (Nat.le_of_ble_eq_true rfl) dX6_shoe_2 rfl rfl ?_
  refine J_if_ne (tgt := 10) X dX6_shoe_5 (by decide) (fun c5 => ?_) (fun c5 => ?_)
  · rw [if_neg c5] at hf
    refine J_aload_n X 0 dX6_shoe_10 rfl rfl ?_
    refine J_get X hO.1 inX6 rfl 1 (Nat.le_of_ble_eq_true rfl) wd_592 rfl (v := .ref (o.1 2)) rfl dX6_shoe_11 ?_
    refine J_bipush X (87 : Int32) dX6_shoe_14 (by decide) ?_
    refine J_dup2 X dX6_shoe_16 rfl rfl ?_
    obtain ⟨v2, qv2, hf⟩ := ob hf
    refine J_iald X hO.2.2.1 (ald_s qv2).1 dX6_shoe_17 ?_
    refine J_topi v2 (ald_s qv2).2 ?_
    refine J_const X (1 : Int32) dX6_shoe_18 (by decide) ?_
    refine J_iload_n X 1 dX6_shoe_19 rfl rfl ?_
    refine J_ishl X dX6_shoe_20 ?_
    refine J_ixor X dX6_shoe_21 ?_
    obtain ⟨h3, qh3, hf⟩ := ob hf
    refine J_iast X hO.2.2.1 (ast_s qh3).1 dX6_shoe_22 ?_
    refine J_hp h3 (ast_s qh3).2 ?_
    refine J_const X (0 : Int32) dX6_shoe_23 (by decide) ?_
    cases hf
    exact J_iret X dX6_shoe_24
  · rw [if_pos c5] at hf
    refine J_const X (1 : Int32) dX6_shoe_8 (by decide) ?_
    cases hf
    exact J_iret X dX6_shoe_9
theorem hd_X6_bring : yX6_bring.cls ≠ "java/lang/invoke/MethodHandle" ∧ yX6_bring.cls ≠ "java/lang/invoke/VarHandle" ∧ (parseMethodDescriptor yX6_bring.desc).map (fun d => d.parameters.length) = some 2 := by decide +kernel
set_option maxHeartbeats 4000000 in
set_option maxRecDepth 100000 in
theorem c_X6_bring (l : Launch) (o : Om) (emb : Hp → va_W) (A : Nat → Prop) (hA : ∀ h : Hp, va_D A (emb h)) (hO : isX6 o emb) (x1 : Int32) (x2 : Int32) (h : Hp) (r : Int32) (h' : Hp) (hf : f_X6_bring x1 x2 h = some (r, h')) : Ct l o emb A yX6_bring cX6_bring 4 (some .int) 1 23 [.ref (o.1 0), .int x1, .int x2] h (some (.int r)) h' := by
  refine Ct.of RX6 rfl (by decide +kernel) hA (Nat.le_of_ble_eq_true rfl) (fun p e s m args below meth c X => ?_)
  refine J_sub (lo' := [(0, .ref (o.1 0)), (1, .int x1), (2, .int x2)]) [0, 1, 2] rfl ?_
  rw [f_X6_bring] at hf
  refine J_aload_n X 0 dX6_bring_0 rfl rfl ?_
  refine J_iload_n X 1 dX6_bring_1 rfl rfl ?_
  refine J_iload_n X 2 dX6_bring_2 rfl rfl ?_
  obtain ⟨v1, qv1, hf⟩ := ob hf
  refine J_callV X (rest := []) (rs := [.int v1]) (c_X6_barOf l o emb A hA hO x1 x2 h v1 qv1) hO.1 rfl rfl wd_710 wd_712 wd_20 wd_41 wd_713 hd_X6_barOf ⟨Nat.le_of_ble_eq_true rfl, Nat.le_of_ble_eq_true rfl⟩ ⟨Nat.zero_le _, Nat.zero_le _⟩ (Nat.le_of_ble_eq_true rfl) dX6_bring_3 rfl rfl ?_
  refine J_istore_n X [(3, .int v1), (0, .ref (o.1 0)), (1, .int x1), (2, .int x2)] dX6_bring_6 rfl (Nat.le_of_ble_eq_true rfl) rfl ?_
  refine J_iload_n X 0 dX6_bring_7 rfl rfl ?_
  refine J_if_ne (tgt := 19) X dX6_bring_8 (by decide) (fun c8 => ?_) (fun c8 => ?_)
  · rw [if_neg c8] at hf
    refine J_iload_n X 0 dX6_bring_19 rfl rfl ?_
    cases hf
    exact J_iret X dX6_bring_20
  · rw [if_pos c8] at hf
    refine J_aload_n X 1 dX6_bring_11 rfl rfl ?_
    refine J_iload_n X 2 dX6_bring_12 rfl rfl ?_
    refine J_iload_n X 3 dX6_bring_13 rfl rfl ?_
    refine J_bipush X (103 : Int32) dX6_bring_14 (by decide) ?_
    obtain ⟨h2, qh2, hf⟩ := ob hf
    refine J_callV X (rest := []) (rs := []) (c_X6_lay l o emb A hA hO x1 x2 (103 : Int32) h h2 qh2) hO.1 rfl rfl wd_714 wd_716 wd_21 wd_41 wd_717 hd_X6_lay ⟨Nat.le_of_ble_eq_true rfl, Nat.le_of_ble_eq_true rfl⟩ ⟨Nat.zero_le _, Nat.zero_le _⟩ (Nat.le_of_ble_eq_true rfl) dX6_bring_16 rfl rfl ?_
    refine J_iload_n X 0 dX6_bring_19 rfl rfl ?_
    cases hf
    exact J_iret X dX6_bring_20
theorem hd_X6_patch : yX6_patch.cls ≠ "java/lang/invoke/MethodHandle" ∧ yX6_patch.cls ≠ "java/lang/invoke/VarHandle" ∧ (parseMethodDescriptor yX6_patch.desc).map (fun d => d.parameters.length) = some 4 := by decide +kernel
set_option maxHeartbeats 4000000 in
set_option maxRecDepth 100000 in
theorem c_X6_patch (l : Launch) (o : Om) (emb : Hp → va_W) (A : Nat → Prop) (hA : ∀ h : Hp, va_D A (emb h)) (hO : isX6 o emb) (x1 : Int32) (x2 : Int32) (x3 : Int32) (x4 : Int32) (h : Hp) (r : Int32) (h' : Hp) (hf : f_X6_patch x1 x2 x3 x4 h = some (r, h')) : Ct l o emb A yX6_patch cX6_patch 7 (some .int) 1 23 [.ref (o.1 0), .int x1, .int x2, .int x3, .int x4] h (some (.int r)) h' := by
  refine Ct.of RX6 rfl (by decide +kernel) hA (Nat.le_of_ble_eq_true rfl) (fun p e s m args below meth c X => ?_)
  refine J_sub (lo' := [(0, .ref (o.1 0)), (1, .int x1), (2, .int x2), (3, .int x3), (4, .int x4)]) [0, 1, 2, 3, 4] rfl ?_
  rw [f_X6_patch] at hf
  refine J_aload_n X 0 dX6_patch_0 rfl rfl ?_
  refine J_iload_n X 1 dX6_patch_1 rfl rfl ?_
  refine J_iload_n X 2 dX6_patch_2 rfl rfl ?_
  obtain ⟨v1, qv1, hf⟩ := ob hf
  refine J_callV X (rest := []) (rs := [.int v1]) (c_X6_barOf l o emb A hA hO x1 x2 h v1 qv1) hO.1 rfl rfl wd_710 wd_712 wd_20 wd_41 wd_713 hd_X6_barOf ⟨Nat.le_of_ble_eq_true rfl, Nat.le_of_ble_eq_true rfl⟩ ⟨Nat.zero_le _, Nat.zero_le _⟩ (Nat.le_of_ble_eq_true rfl) dX6_patch_3 rfl rfl ?_
  refine J_istore X [(5, .int v1), (0, .ref (o.1 0)), (1, .int x1), (2, .int x2), (3, .int x3), (4, .int x4)] dX6_patch_6 (Nat.le_of_ble_eq_true rfl) rfl ?_
  refine J_aload_n X 1 dX6_patch_8 rfl rfl ?_
  refine J_iload_n X 4 dX6_patch_9 rfl rfl ?_
  refine J_iload X 5 dX6_patch_10 rfl ?_
  obtain ⟨v2, qv2, hf⟩ := ob hf
  refine J_callV X (rest := []) (rs := [.int v2]) (c_X6_barOf l o emb A hA hO x3 x4 h v2 qv2) hO.1 rfl rfl wd_710 wd_712 wd_20 wd_41 wd_713 hd_X6_barOf ⟨Nat.le_of_ble_eq_true rfl, Nat.le_of_ble_eq_true rfl⟩ ⟨Nat.zero_le _, Nat.zero_le _⟩ (Nat.le_of_ble_eq_true rfl) dX6_patch_12 rfl rfl ?_
  refine J_istore X [(6, .int v2), (5, .int v1), (0, .ref (o.1 0)), (1, .int x1), (2, .int x2), (3, .int x3), (4, .int x4)] dX6_patch_15 (Nat.le_of_ble_eq_true rfl) rfl ?_
  refine J_iload X 1 dX6_patch_17 rfl ?_
  refine J_const X (3 : Int32) dX6_patch_19 (by decide) ?_
  refine J_icmp_eq (tgt := 29) X dX6_patch_20 (by decide) (fun c20 => ?_) (fun c20 => ?_)
  · rw [if_pos c20] at hf
    refine J_const X (3 : Int32) dX6_patch_29 (by decide) ?_
    cases hf
    exact J_iret X dX6_patch_30
  · rw [if_neg c20] at hf
    refine J_iload X 0 dX6_patch_23 rfl ?_
    refine J_const X (3 : Int32) dX6_patch_25 (by decide) ?_
    refine J_icmp_ne (tgt := 31) X dX6_patch_26 (by decide) (fun c26 => ?_) (fun c26 => ?_)
    · rw [if_neg c26] at hf
      refine J_iload X 1 dX6_patch_31 rfl ?_
      refine J_const X (4 : Int32) dX6_patch_33 (by decide) ?_
      refine J_icmp_eq (tgt := 43) X dX6_patch_34 (by decide) (fun c34 => ?_) (fun c34 => ?_)
      · rw [if_pos c34] at hf
        refine J_const X (4 : Int32) dX6_patch_43 (by decide) ?_
        cases hf
        exact J_iret X dX6_patch_44
      · rw [if_neg c34] at hf
        refine J_iload X 0 dX6_patch_37 rfl ?_
        refine J_const X (4 : Int32) dX6_patch_39 (by decide) ?_
        refine J_icmp_ne (tgt := 45) X dX6_patch_40 (by decide) (fun c40 => ?_) (fun c40 => ?_)
        · rw [if_neg c40] at hf
          refine J_iload_n X 3 dX6_patch_45 rfl rfl ?_
          refine J_iload_n X 5 dX6_patch_46 rfl rfl ?_
          obtain ⟨k3, qk3, hf⟩ := jn_s hf
          have yk3 : ∀ (_u : Unit), k3 _u = some (r, h') → J p l e (rmf 1 23) s m args below meth c 0 0 (MQ below (WdQ o emb A (some (.int r)) h') args s 0 0 A) o emb A s.heap 7 56 [(0, .ref (o.1 0)), (1, .int x1), (2, .int x2), (3, .int x3), (4, .int x4)] [] h := by
            intro _u hf
            rw [qk3] at hf
            try dsimp only at hf
            refine J_iload_n X 1 dX6_patch_56 rfl rfl ?_
            refine J_iload X 4 dX6_patch_57 rfl ?_
            obtain ⟨k4, qk4, hf⟩ := jn_s hf
            have yk4 : ∀ (_u : Unit), k4 _u = some (r, h') → J p l e (rmf 1 23) s m args below meth c 0 0 (MQ below (WdQ o emb A (some (.int r)) h') args s 0 0 A) o emb A s.heap 7 70 [(0, .ref (o.1 0)), (1, .int x1), (2, .int x2), (3, .int x3), (4, .int x4)] [] h := by
              intro _u hf
              rw [qk4] at hf
              try dsimp only at hf
              refine J_aload_n X 0 dX6_patch_70 rfl rfl ?_
              refine J_iload_n X 1 dX6_patch_71 rfl rfl ?_
              refine J_iload_n X 2 dX6_patch_72 rfl rfl ?_
              refine J_aload_n X 0 dX6_patch_73 rfl rfl ?_
              refine J_get X hO.1 inX6 rfl 1 (Nat.le_of_ble_eq_true rfl) wd_592 rfl (v := .ref (o.1 2)) rfl dX6_patch_74 ?_
              refine J_bipush X (9 : Int32) dX6_patch_77 (by decide) ?_
              refine J_iload_n X 1 dX6_patch_79 rfl rfl ?_
              refine J_imul X dX6_patch_80 ?_
              refine J_iload_n X 2 dX6_patch_81 rfl rfl ?_
              refine J_iadd X dX6_patch_82 ?_
              obtain ⟨v5, qv5, hf⟩ := ob hf
              refine J_iald X hO.2.2.1 (ald_s qv5).1 dX6_patch_83 ?_
              refine J_topi v5 (ald_s qv5).2 ?_
              refine J_const X (2 : Int32) dX6_patch_84 (by decide) ?_
              refine J_idiv X dX6_patch_85 (by decide) ?_
              obtain ⟨h6, qh6, hf⟩ := ob hf
              refine J_callV X (rest := []) (rs := []) (c_X6_lay l o emb A hA hO x1 x2 (v5 / (2 : Int32)) h h6 qh6) hO.1 rfl rfl wd_714 wd_716 wd_21 wd_41 wd_717 hd_X6_lay ⟨Nat.le_of_ble_eq_true rfl, Nat.le_of_ble_eq_true rfl⟩ ⟨Nat.zero_le _, Nat.zero_le _⟩ (Nat.le_of_ble_eq_true rfl) dX6_patch_86 rfl rfl ?_
              refine J_aload_n X 0 dX6_patch_89 rfl rfl ?_
              refine J_iload_n X 3 dX6_patch_90 rfl rfl ?_
              refine J_iload X 4 dX6_patch_91 rfl ?_
              refine J_bipush X (-6 : Int32) dX6_patch_93 (by decide) ?_
              obtain ⟨h7, qh7, hf⟩ := ob hf
              refine J_callV X (rest := []) (rs := []) (c_X6_lay l o emb A hA hO x3 x4 (-6 : Int32) h6 h7 qh7) hO.1 rfl rfl wd_714 wd_716 wd_21 wd_41 wd_717 hd_X6_lay ⟨Nat.le_of_ble_eq_true rfl, Nat.le_of_ble_eq_true rfl⟩ ⟨Nat.zero_le _, Nat.zero_le _⟩ (Nat.le_of_ble_eq_true rfl) dX6_patch_95 rfl rfl ?_
              refine J_const X (0 : Int32) dX6_patch_98 (by decide) ?_
              cases hf
              exact J_iret X dX6_patch_99
            refine J_icmp_ne (tgt := 70) X dX6_patch_59 (by decide) (fun c59 => ?_) (fun c59 => ?_)
            · rw [if_neg c59] at hf
              exact J_sub [0, 1, 2, 3, 4] rfl (yk4 () hf)
            · rw [if_pos c59] at hf
              refine J_iload_n X 2 dX6_patch_62 rfl rfl ?_
              refine J_iload_n X 3 dX6_patch_63 rfl rfl ?_
              refine J_icmp_ne (tgt := 70) X dX6_patch_64 (by decide) (fun c64 => ?_) (fun c64 => ?_)
              · rw [if_neg c64] at hf
                exact J_sub [0, 1, 2, 3, 4] rfl (yk4 () hf)
              · rw [if_pos c64] at hf
                refine J_bipush X (6 : Int32) dX6_patch_67 (by decide) ?_
                cases hf
                exact J_iret X dX6_patch_69
          refine J_icmp_ne (tgt := 56) X dX6_patch_47 (by decide) (fun c47 => ?_) (fun c47 => ?_)
          · rw [if_neg c47] at hf
            exact J_sub [2, 3, 4, 5, 6] rfl (yk3 () hf)
          · rw [if_pos c47] at hf
            refine J_iload_n X 4 dX6_patch_50 rfl rfl ?_
            refine J_iload X 6 dX6_patch_51 rfl ?_
            refine J_icmp_eq (tgt := 67) X dX6_patch_53 (by decide) (fun c53 => ?_) (fun c53 => ?_)
            · rw [if_pos c53] at hf
              refine J_bipush X (6 : Int32) dX6_patch_67 (by decide) ?_
              cases hf
              exact J_iret X dX6_patch_69
            · rw [if_neg c53] at hf
              exact J_sub [2, 3, 4, 5, 6] rfl (yk3 () hf)
        · rw [if_pos c40] at hf
          refine J_const X (4 : Int32) dX6_patch_43 (by decide) ?_
          cases hf
          exact J_iret X dX6_patch_44
    · rw [if_pos c26] at hf
      refine J_const X (3 : Int32) dX6_patch_29 (by decide) ?_
      cases hf
      exact J_iret X dX6_patch_30
theorem hd_X6_endDay : yX6_endDay.cls ≠ "java/lang/invoke/MethodHandle" ∧ yX6_endDay.cls ≠ "java/lang/invoke/VarHandle" ∧ (parseMethodDescriptor yX6_endDay.desc).map (fun d => d.parameters.length) = some 0 := by decide +kernel
set_option maxHeartbeats 4000000 in
set_option maxRecDepth 100000 in
theorem cf_X6_endDay_l28 {R : Type} (hA : ∀ h : Hp, va_D A (emb h)) (X : Cx p s m args meth c RX6 cX6_endDay 2 (some .int) o)  (hO : isX6 o emb)  {kx : Int32 → Hp → Option R} (t : R) : ∀ (n : Nat) (s1 : Int32) (h : Hp), f_X6_endDay_l28 kx n s1 h = some t → (∀ (s1 : Int32) (h : Hp), kx s1 h = some t → J p l e (rmf 0 0) s m args below meth c 0 0 Z o emb A H0 2 89 [] [] h) → J p l e (rmf 0 0) s m args below meth c 0 0 Z o emb A H0 2 28 [(0, .ref (o.1 0)), (1, .int s1)] [] h := by
  intro n
  induction n with
  | zero =>
    intro s1 h hf hk
    cases hf
  | succ n ih =>
    intro s1 h hf hk
    rw [f_X6_endDay_l28] at hf
    refine J_iload_n X 1 dX6_endDay_28 rfl rfl ?_
    refine J_bipush X (81 : Int32) dX6_endDay_29 (by decide) ?_
    refine J_icmp_ge (tgt := 89) X dX6_endDay_31 (by decide) (fun c31 => ?_) (fun c31 => ?_)
    · rw [if_pos c31] at hf
      exact J_sub [] rfl (hk s1 h hf)
    · rw [if_neg c31] at hf
      refine J_aload_n X 0 dX6_endDay_34 rfl rfl ?_
      refine J_get X hO.1 inX6 rfl 1 (Nat.le_of_ble_eq_true rfl) wd_592 rfl (v := .ref (o.1 2)) rfl dX6_endDay_35 ?_
      refine J_iload_n X 1 dX6_endDay_38 rfl rfl ?_
      refine J_aload_n X 0 dX6_endDay_39 rfl rfl ?_
      refine J_get X hO.1 inX6 rfl 1 (Nat.le_of_ble_eq_true rfl) wd_592 rfl (v := .ref (o.1 2)) rfl dX6_endDay_40 ?_
      refine J_iload_n X 1 dX6_endDay_43 rfl rfl ?_
      obtain ⟨v4, qv4, hf⟩ := ob hf
      refine J_iald X hO.2.2.1 (ald_s qv4).1 dX6_endDay_44 ?_
      refine J_topi v4 (ald_s qv4).2 ?_
      refine J_bipush X (101 : Int32) dX6_endDay_45 (by decide) ?_
      obtain ⟨t6, qt6, hf⟩ := ob hf
      have yk5 : J p l e (rmf 0 0) s m args below meth c 0 0 Z o emb A H0 2 82 [(0, .ref (o.1 0)), (1, .int s1)] [.int t6, .int s1, .ref (o.1 2)] h := by
        obtain ⟨h7, qh7, hf⟩ := ob hf
        refine J_iast X hO.2.2.1 (ast_s qh7).1 dX6_endDay_82 ?_
        refine J_hp h7 (ast_s qh7).2 ?_
        obtain ⟨v8, qv8, hf⟩ := ob hf
        refine J_iinc X 1 [(1, .int v8), (0, .ref (o.1 0))] dX6_endDay_83 rfl (Option.some.inj qv8) (Nat.le_of_ble_eq_true rfl) rfl ?_
        refine J_goto (tgt := 28) X dX6_endDay_86 (by decide) ?_
        exact J_sub [1, 0] rfl (ih v8 h7 hf hk)
      clear hf
      have hf := qt6
      clear qt6
      refine J_icmp_ne (tgt := 54) X dX6_endDay_47 (by decide) (fun c47 => ?_) (fun c47 => ?_)
      · rw [if_neg c47] at hf
        refine J_aload_n X 0 dX6_endDay_54 rfl rfl ?_
        refine J_get X hO.1 inX6 rfl 1 (Nat.le_of_ble_eq_true rfl) wd_592 rfl (v := .ref (o.1 2)) rfl dX6_endDay_55 ?_
        refine J_iload_n X 1 dX6_endDay_58 rfl rfl ?_
        obtain ⟨v9, qv9, hf⟩ := ob hf
        refine J_iald X hO.2.2.1 (ald_s qv9).1 dX6_endDay_59 ?_
        refine J_topi v9 (ald_s qv9).2 ?_
        refine J_bipush X (101 : Int32) dX6_endDay_60 (by decide) ?_
        refine J_icmp_le (tgt := 76) X dX6_endDay_62 (by decide) (fun c62 => ?_) (fun c62 => ?_)
        · rw [if_pos c62] at hf
          refine J_aload_n X 0 dX6_endDay_76 rfl rfl ?_
          refine J_get X hO.1 inX6 rfl 1 (Nat.le_of_ble_eq_true rfl) wd_592 rfl (v := .ref (o.1 2)) rfl dX6_endDay_77 ?_
          refine J_iload_n X 1 dX6_endDay_80 rfl rfl ?_
          obtain ⟨v10, qv10, hf⟩ := ob hf
          refine J_iald X hO.2.2.1 (ald_s qv10).1 dX6_endDay_81 ?_
          refine J_topi v10 (ald_s qv10).2 ?_
          cases hf
          exact J_sub [0, 1] rfl yk5
        · rw [if_neg c62] at hf
          refine J_aload_n X 0 dX6_endDay_65 rfl rfl ?_
          refine J_get X hO.1 inX6 rfl 1 (Nat.le_of_ble_eq_true rfl) wd_592 rfl (v := .ref (o.1 2)) rfl dX6_endDay_66 ?_
          refine J_iload_n X 1 dX6_endDay_69 rfl rfl ?_
          obtain ⟨v11, qv11, hf⟩ := ob hf
          refine J_iald X hO.2.2.1 (ald_s qv11).1 dX6_endDay_70 ?_
          refine J_topi v11 (ald_s qv11).2 ?_
          refine J_const X (1 : Int32) dX6_endDay_71 (by decide) ?_
          refine J_isub X dX6_endDay_72 ?_
          refine J_goto (tgt := 82) X dX6_endDay_73 (by decide) ?_
          cases hf
          exact J_sub [0, 1] rfl yk5
      · rw [if_pos c47] at hf
        refine J_const X (0 : Int32) dX6_endDay_50 (by decide) ?_
        refine J_goto (tgt := 82) X dX6_endDay_51 (by decide) ?_
        cases hf
        exact J_sub [0, 1] rfl yk5
set_option maxHeartbeats 4000000 in
set_option maxRecDepth 100000 in
theorem c_X6_endDay (l : Launch) (o : Om) (emb : Hp → va_W) (A : Nat → Prop) (hA : ∀ h : Hp, va_D A (emb h)) (hO : isX6 o emb) (h : Hp) (r : Int32) (h' : Hp) (hf : f_X6_endDay h = some (r, h')) : Ct l o emb A yX6_endDay cX6_endDay 2 (some .int) 0 0 [.ref (o.1 0)] h (some (.int r)) h' := by
  refine Ct.of RX6 rfl (by decide +kernel) hA (Nat.le_of_ble_eq_true rfl) (fun p e s m args below meth c X => ?_)
  refine J_sub (lo' := [(0, .ref (o.1 0))]) [0] rfl ?_
  rw [f_X6_endDay] at hf
  refine J_aload_n X 0 dX6_endDay_0 rfl rfl ?_
  refine J_get X hO.1 inX6 rfl 1 (Nat.le_of_ble_eq_true rfl) wd_592 rfl (v := .ref (o.1 2)) rfl dX6_endDay_1 ?_
  refine J_bipush X (88 : Int32) dX6_endDay_4 (by decide) ?_
  obtain ⟨v1, qv1, hf⟩ := ob hf
  refine J_iald X hO.2.2.1 (ald_s qv1).1 dX6_endDay_6 ?_
  refine J_topi v1 (ald_s qv1).2 ?_
  refine J_bipush X (99 : Int32) dX6_endDay_7 (by decide) ?_
  refine J_icmp_ne (tgt := 15) X dX6_endDay_9 (by decide) (fun c9 => ?_) (fun c9 => ?_)
  · rw [if_neg c9] at hf
    refine J_aload_n X 0 dX6_endDay_15 rfl rfl ?_
    refine J_get X hO.1 inX6 rfl 1 (Nat.le_of_ble_eq_true rfl) wd_592 rfl (v := .ref (o.1 2)) rfl dX6_endDay_16 ?_
    refine J_bipush X (88 : Int32) dX6_endDay_19 (by decide) ?_
    refine J_dup2 X dX6_endDay_21 rfl rfl ?_
    obtain ⟨v2, qv2, hf⟩ := ob hf
    refine J_iald X hO.2.2.1 (ald_s qv2).1 dX6_endDay_22 ?_
    refine J_topi v2 (ald_s qv2).2 ?_
    refine J_const X (1 : Int32) dX6_endDay_23 (by decide) ?_
    refine J_iadd X dX6_endDay_24 ?_
    obtain ⟨h3, qh3, hf⟩ := ob hf
    refine J_iast X hO.2.2.1 (ast_s qh3).1 dX6_endDay_25 ?_
    refine J_hp h3 (ast_s qh3).2 ?_
    refine J_const X (0 : Int32) dX6_endDay_26 (by decide) ?_
    refine J_istore_n X [(1, .int (0 : Int32)), (0, .ref (o.1 0))] dX6_endDay_27 rfl (Nat.le_of_ble_eq_true rfl) rfl ?_
    refine J_sub (lo' := [(0, .ref (o.1 0)), (1, .int (0 : Int32))]) [1, 0] rfl ?_
    refine cf_X6_endDay_l28 hA X  hO  _ _ (0 : Int32) h3 hf (fun w12 h13 hf => ?_)
    refine J_const X (0 : Int32) dX6_endDay_89 (by decide) ?_
    cases hf
    exact J_iret X dX6_endDay_90
  · rw [if_pos c9] at hf
    refine J_bipush X (7 : Int32) dX6_endDay_12 (by decide) ?_
    cases hf
    exact J_iret X dX6_endDay_14
theorem hd_X6_isOpen : yX6_isOpen.cls ≠ "java/lang/invoke/MethodHandle" ∧ yX6_isOpen.cls ≠ "java/lang/invoke/VarHandle" ∧ (parseMethodDescriptor yX6_isOpen.desc).map (fun d => d.parameters.length) = some 2 := by decide +kernel
set_option maxHeartbeats 4000000 in
set_option maxRecDepth 100000 in
theorem c_X6_isOpen (l : Launch) (o : Om) (emb : Hp → va_W) (A : Nat → Prop) (hA : ∀ h : Hp, va_D A (emb h)) (hO : isX6 o emb) (x1 : Int32) (x2 : Int32) (h : Hp) (r : Int32) (hf : f_X6_isOpen x1 x2 h = some r) : Ct l o emb A yX6_isOpen cX6_isOpen 3 (some .boolean) 1 22 [.ref (o.1 0), .int x1, .int x2] h (some (.int r)) h := by
  refine Ct.of RX6 rfl (by decide +kernel) hA (Nat.le_of_ble_eq_true rfl) (fun p e s m args below meth c X => ?_)
  refine J_sub (lo' := [(0, .ref (o.1 0)), (1, .int x1), (2, .int x2)]) [0, 1, 2] rfl ?_
  rw [f_X6_isOpen] at hf
  refine J_aload_n X 0 dX6_isOpen_0 rfl rfl ?_
  refine J_get X hO.1 inX6 rfl 1 (Nat.le_of_ble_eq_true rfl) wd_592 rfl (v := .ref (o.1 2)) rfl dX6_isOpen_1 ?_
  refine J_bipush X (9 : Int32) dX6_isOpen_4 (by decide) ?_
  refine J_iload_n X 1 dX6_isOpen_6 rfl rfl ?_
  refine J_imul X dX6_isOpen_7 ?_
  refine J_iload_n X 2 dX6_isOpen_8 rfl rfl ?_
  refine J_iadd X dX6_isOpen_9 ?_
  obtain ⟨v1, qv1, hf⟩ := ob hf
  refine J_iald X hO.2.2.1 (ald_s qv1).1 dX6_isOpen_10 ?_
  refine J_topi v1 (ald_s qv1).2 ?_
  refine J_const X (0 : Int32) dX6_isOpen_11 (by decide) ?_
  refine J_bipush X (8 : Int32) dX6_isOpen_12 (by decide) ?_
  obtain ⟨v2, qv2, hf⟩ := ob hf
  refine J_callS X (rest := []) (rs := [.int v2]) (c_X6_in l o emb A hA v1 (0 : Int32) (8 : Int32) h v2 qv2) wd_660 wd_661 wd_41 wd_662 hd_X6_in ⟨Nat.le_of_ble_eq_true rfl, Nat.le_of_ble_eq_true rfl⟩ ⟨Nat.zero_le _, Nat.zero_le _⟩ (Nat.le_of_ble_eq_true rfl) dX6_isOpen_14 rfl rfl ?_
  obtain ⟨v3, qv3, hf⟩ := ob hf
  have zv3 := (zck_s qv3).1
  have yv3 := (zck_s qv3).2
  rw [yv3] at zv3
  refine J_topi v3 yv3 ?_
  cases hf
  exact J_zret X zv3 dX6_isOpen_17
theorem hd_X6_openFrom : yX6_openFrom.cls ≠ "java/lang/invoke/MethodHandle" ∧ yX6_openFrom.cls ≠ "java/lang/invoke/VarHandle" ∧ (parseMethodDescriptor yX6_openFrom.desc).map (fun d => d.parameters.length) = some 1 := by decide +kernel
set_option maxHeartbeats 4000000 in
set_option maxRecDepth 100000 in
theorem cf_X6_openFrom_l4 {R : Type} (hA : ∀ h : Hp, va_D A (emb h)) (X : Cx p s m args meth c RX6 cX6_openFrom 4 (some .int) o)  (hO : isX6 o emb) (s1 : Int32) (h : Hp) {kx : Int32 → Int32 → Option R} (t : R) : ∀ (n : Nat) (s2 : Int32) (s3 : Int32), f_X6_openFrom_l4 s1 h kx n s2 s3 = some t → (∀ (s2 : Int32) (s3 : Int32), kx s2 s3 = some t → J p l e (rmf 2 44) s m args below meth c 0 0 Z o emb A H0 4 35 [(2, .int s2)] [] h) → J p l e (rmf 2 44) s m args below meth c 0 0 Z o emb A H0 4 4 [(0, .ref (o.1 0)), (1, .int s1), (2, .int s2), (3, .int s3)] [] h := by
  intro n
  induction n with
  | zero =>
    intro s2 s3 hf hk
    cases hf
  | succ n ih =>
    intro s2 s3 hf hk
    rw [f_X6_openFrom_l4] at hf
    refine J_iload_n X 3 dX6_openFrom_4 rfl rfl ?_
    refine J_bipush X (9 : Int32) dX6_openFrom_5 (by decide) ?_
    refine J_icmp_ge (tgt := 35) X dX6_openFrom_7 (by decide) (fun c7 => ?_) (fun c7 => ?_)
    · rw [if_pos c7] at hf
      exact J_sub [2] rfl (hk s2 s3 hf)
    · rw [if_neg c7] at hf
      refine J_iload_n X 2 dX6_openFrom_10 rfl rfl ?_
      refine J_aload_n X 0 dX6_openFrom_11 rfl rfl ?_
      refine J_iload_n X 1 dX6_openFrom_12 rfl rfl ?_
      refine J_iload_n X 3 dX6_openFrom_13 rfl rfl ?_
      obtain ⟨v1, qv1, hf⟩ := ob hf
      refine J_callV X (rest := [.int s2]) (rs := [.int v1, .int s2]) (c_X6_isOpen l o emb A hA hO s1 s3 h v1 qv1) hO.1 rfl rfl wd_769 wd_771 wd_30 wd_41 wd_772 hd_X6_isOpen ⟨Nat.le_of_ble_eq_true rfl, Nat.le_of_ble_eq_true rfl⟩ ⟨Nat.zero_le _, Nat.zero_le _⟩ (Nat.le_of_ble_eq_true rfl) dX6_openFrom_14 rfl rfl ?_
      obtain ⟨t3, qt3, hf⟩ := ob hf
      have yk2 : J p l e (rmf 2 44) s m args below meth c 0 0 Z o emb A H0 4 27 [(0, .ref (o.1 0)), (1, .int s1), (3, .int s3)] [.int t3, .int s2] h := by
        refine J_ior X dX6_openFrom_27 ?_
        obtain ⟨v4, qv4, hf⟩ := ob hf
        refine J_topi v4 (Option.some.inj qv4) ?_
        refine J_istore_n X [(2, .int v4), (0, .ref (o.1 0)), (1, .int s1), (3, .int s3)] dX6_openFrom_28 rfl (Nat.le_of_ble_eq_true rfl) rfl ?_
        obtain ⟨v5, qv5, hf⟩ := ob hf
        refine J_iinc X 3 [(3, .int v5), (2, .int v4), (0, .ref (o.1 0)), (1, .int s1)] dX6_openFrom_29 rfl (Option.some.inj qv5) (Nat.le_of_ble_eq_true rfl) rfl ?_
        refine J_goto (tgt := 4) X dX6_openFrom_32 (by decide) ?_
        exact J_sub [2, 3, 1, 0] rfl (ih v4 v5 hf hk)
      clear hf
      have hf := qt3
      clear qt3
      refine J_if_eq (tgt := 26) X dX6_openFrom_17 (by decide) (fun c17 => ?_) (fun c17 => ?_)
      · rw [if_pos c17] at hf
        refine J_const X (0 : Int32) dX6_openFrom_26 (by decide) ?_
        cases hf
        exact J_sub [0, 1, 3] rfl yk2
      · rw [if_neg c17] at hf
        refine J_const X (1 : Int32) dX6_openFrom_20 (by decide) ?_
        refine J_iload_n X 3 dX6_openFrom_21 rfl rfl ?_
        refine J_ishl X dX6_openFrom_22 ?_
        refine J_goto (tgt := 27) X dX6_openFrom_23 (by decide) ?_
        cases hf
        exact J_sub [0, 1, 3] rfl yk2
set_option maxHeartbeats 4000000 in
set_option maxRecDepth 100000 in
theorem c_X6_openFrom (l : Launch) (o : Om) (emb : Hp → va_W) (A : Nat → Prop) (hA : ∀ h : Hp, va_D A (emb h)) (hO : isX6 o emb) (x1 : Int32) (h : Hp) (r : Int32) (hf : f_X6_openFrom x1 h = some r) : Ct l o emb A yX6_openFrom cX6_openFrom 4 (some .int) 2 44 [.ref (o.1 0), .int x1] h (some (.int r)) h := by
  refine Ct.of RX6 rfl (by decide +kernel) hA (Nat.le_of_ble_eq_true rfl) (fun p e s m args below meth c X => ?_)
  refine J_sub (lo' := [(0, .ref (o.1 0)), (1, .int x1)]) [0, 1] rfl ?_
  rw [f_X6_openFrom] at hf
  refine J_const X (0 : Int32) dX6_openFrom_0 (by decide) ?_
  refine J_istore_n X [(2, .int (0 : Int32)), (0, .ref (o.1 0)), (1, .int x1)] dX6_openFrom_1 rfl (Nat.le_of_ble_eq_true rfl) rfl ?_
  refine J_const X (0 : Int32) dX6_openFrom_2 (by decide) ?_
  refine J_istore_n X [(3, .int (0 : Int32)), (2, .int (0 : Int32)), (0, .ref (o.1 0)), (1, .int x1)] dX6_openFrom_3 rfl (Nat.le_of_ble_eq_true rfl) rfl ?_
  refine J_sub (lo' := [(0, .ref (o.1 0)), (1, .int x1), (2, .int (0 : Int32)), (3, .int (0 : Int32))]) [2, 3, 1, 0] rfl ?_
  refine cf_X6_openFrom_l4 hA X  hO x1 h _ _ (0 : Int32) (0 : Int32) hf (fun w6 w7 hf => ?_)
  refine J_iload_n X 0 dX6_openFrom_35 rfl rfl ?_
  cases hf
  exact J_iret X dX6_openFrom_36
theorem hd_X6_shutIn : yX6_shutIn.cls ≠ "java/lang/invoke/MethodHandle" ∧ yX6_shutIn.cls ≠ "java/lang/invoke/VarHandle" ∧ (parseMethodDescriptor yX6_shutIn.desc).map (fun d => d.parameters.length) = some 0 := by decide +kernel
set_option maxHeartbeats 4000000 in
set_option maxRecDepth 100000 in
theorem cf_X6_shutIn_l4 {R : Type} (hA : ∀ h : Hp, va_D A (emb h)) (X : Cx p s m args meth c RX6 cX6_shutIn 3 (some .int) o)  (hO : isX6 o emb)  (h : Hp) {kx : Int32 → Int32 → Option R} (t : R) : ∀ (n : Nat) (s1 : Int32) (s2 : Int32), f_X6_shutIn_l4 h kx n s1 s2 = some t → (∀ (s1 : Int32) (s2 : Int32), kx s1 s2 = some t → J p l e (rmf 3 67) s m args below meth c 0 0 Z o emb A H0 3 50 [(1, .int s1)] [] h) → J p l e (rmf 3 67) s m args below meth c 0 0 Z o emb A H0 3 4 [(0, .ref (o.1 0)), (1, .int s1), (2, .int s2)] [] h := by
  intro n
  induction n with
  | zero =>
    intro s1 s2 hf hk
    cases hf
  | succ n ih =>
    intro s1 s2 hf hk
    rw [f_X6_shutIn_l4] at hf
    refine J_iload_n X 2 dX6_shutIn_4 rfl rfl ?_
    refine J_bipush X (6 : Int32) dX6_shutIn_5 (by decide) ?_
    refine J_icmp_ge (tgt := 50) X dX6_shutIn_7 (by decide) (fun c7 => ?_) (fun c7 => ?_)
    · rw [if_pos c7] at hf
      exact J_sub [1] rfl (hk s1 s2 hf)
    · rw [if_neg c7] at hf
      refine J_iload_n X 1 dX6_shutIn_10 rfl rfl ?_
      refine J_aload_n X 0 dX6_shutIn_11 rfl rfl ?_
      refine J_iload_n X 2 dX6_shutIn_12 rfl rfl ?_
      obtain ⟨v1, qv1, hf⟩ := ob hf
      refine J_callV X (rest := [.int s1]) (rs := [.int v1, .int s1]) (c_X6_isThere l o emb A hA hO s2 h v1 qv1) hO.1 rfl rfl wd_726 wd_728 wd_24 wd_41 wd_729 hd_X6_isThere ⟨Nat.le_of_ble_eq_true rfl, Nat.le_of_ble_eq_true rfl⟩ ⟨Nat.zero_le _, Nat.zero_le _⟩ (Nat.le_of_ble_eq_true rfl) dX6_shutIn_13 rfl rfl ?_
      obtain ⟨t3, qt3, hf⟩ := ob hf
      have yk2 : J p l e (rmf 3 67) s m args below meth c 0 0 Z o emb A H0 3 42 [(0, .ref (o.1 0)), (2, .int s2)] [.int t3, .int s1] h := by
        refine J_ior X dX6_shutIn_42 ?_
        obtain ⟨v4, qv4, hf⟩ := ob hf
        refine J_topi v4 (Option.some.inj qv4) ?_
        refine J_istore_n X [(1, .int v4), (0, .ref (o.1 0)), (2, .int s2)] dX6_shutIn_43 rfl (Nat.le_of_ble_eq_true rfl) rfl ?_
        obtain ⟨v5, qv5, hf⟩ := ob hf
        refine J_iinc X 2 [(2, .int v5), (1, .int v4), (0, .ref (o.1 0))] dX6_shutIn_44 rfl (Option.some.inj qv5) (Nat.le_of_ble_eq_true rfl) rfl ?_
        refine J_goto (tgt := 4) X dX6_shutIn_47 (by decide) ?_
        exact J_sub [2, 1, 0] rfl (ih v4 v5 hf hk)
      clear hf
      have hf := qt3
      clear qt3
      refine J_if_eq (tgt := 41) X dX6_shutIn_16 (by decide) (fun c16 => ?_) (fun c16 => ?_)
      · rw [if_pos c16] at hf
        refine J_const X (0 : Int32) dX6_shutIn_41 (by decide) ?_
        cases hf
        exact J_sub [0, 2] rfl yk2
      · rw [if_neg c16] at hf
        refine J_aload_n X 0 dX6_shutIn_19 rfl rfl ?_
        refine J_aload_n X 0 dX6_shutIn_20 rfl rfl ?_
        refine J_get X hO.1 inX6 rfl 1 (Nat.le_of_ble_eq_true rfl) wd_592 rfl (v := .ref (o.1 2)) rfl dX6_shutIn_21 ?_
        refine J_bipush X (81 : Int32) dX6_shutIn_24 (by decide) ?_
        refine J_iload_n X 2 dX6_shutIn_26 rfl rfl ?_
        refine J_iadd X dX6_shutIn_27 ?_
        obtain ⟨v6, qv6, hf⟩ := ob hf
        refine J_iald X hO.2.2.1 (ald_s qv6).1 dX6_shutIn_28 ?_
        refine J_topi v6 (ald_s qv6).2 ?_
        obtain ⟨v7, qv7, hf⟩ := ob hf
        refine J_callV X (rest := [.int s1]) (rs := [.int v7, .int s1]) (c_X6_openFrom l o emb A hA hO v6 h v7 qv7) hO.1 rfl rfl wd_765 wd_767 wd_29 wd_41 wd_768 hd_X6_openFrom ⟨Nat.le_of_ble_eq_true rfl, Nat.le_of_ble_eq_true rfl⟩ ⟨Nat.zero_le _, Nat.zero_le _⟩ (Nat.le_of_ble_eq_true rfl) dX6_shutIn_29 rfl rfl ?_
        refine J_if_ne (tgt := 41) X dX6_shutIn_32 (by decide) (fun c32 => ?_) (fun c32 => ?_)
        · rw [if_neg c32] at hf
          refine J_const X (0 : Int32) dX6_shutIn_41 (by decide) ?_
          cases hf
          exact J_sub [0, 2] rfl yk2
        · rw [if_pos c32] at hf
          refine J_const X (1 : Int32) dX6_shutIn_35 (by decide) ?_
          refine J_iload_n X 2 dX6_shutIn_36 rfl rfl ?_
          refine J_ishl X dX6_shutIn_37 ?_
          refine J_goto (tgt := 42) X dX6_shutIn_38 (by decide) ?_
          cases hf
          exact J_sub [0, 2] rfl yk2
set_option maxHeartbeats 4000000 in
set_option maxRecDepth 100000 in
theorem c_X6_shutIn (l : Launch) (o : Om) (emb : Hp → va_W) (A : Nat → Prop) (hA : ∀ h : Hp, va_D A (emb h)) (hO : isX6 o emb) (h : Hp) (r : Int32) (hf : f_X6_shutIn h = some r) : Ct l o emb A yX6_shutIn cX6_shutIn 3 (some .int) 3 67 [.ref (o.1 0)] h (some (.int r)) h := by
  refine Ct.of RX6 rfl (by decide +kernel) hA (Nat.le_of_ble_eq_true rfl) (fun p e s m args below meth c X => ?_)
  refine J_sub (lo' := [(0, .ref (o.1 0))]) [0] rfl ?_
  rw [f_X6_shutIn] at hf
  refine J_const X (0 : Int32) dX6_shutIn_0 (by decide) ?_
  refine J_istore_n X [(1, .int (0 : Int32)), (0, .ref (o.1 0))] dX6_shutIn_1 rfl (Nat.le_of_ble_eq_true rfl) rfl ?_
  refine J_const X (0 : Int32) dX6_shutIn_2 (by decide) ?_
  refine J_istore_n X [(2, .int (0 : Int32)), (1, .int (0 : Int32)), (0, .ref (o.1 0))] dX6_shutIn_3 rfl (Nat.le_of_ble_eq_true rfl) rfl ?_
  refine J_sub (lo' := [(0, .ref (o.1 0)), (1, .int (0 : Int32)), (2, .int (0 : Int32))]) [2, 1, 0] rfl ?_
  refine cf_X6_shutIn_l4 hA X  hO  h _ _ (0 : Int32) (0 : Int32) hf (fun w8 w9 hf => ?_)
  refine J_iload_n X 0 dX6_shutIn_50 rfl rfl ?_
  cases hf
  exact J_iret X dX6_shutIn_51
theorem hd_X6_wearOf : yX6_wearOf.cls ≠ "java/lang/invoke/MethodHandle" ∧ yX6_wearOf.cls ≠ "java/lang/invoke/VarHandle" ∧ (parseMethodDescriptor yX6_wearOf.desc).map (fun d => d.parameters.length) = some 0 := by decide +kernel
set_option maxHeartbeats 4000000 in
set_option maxRecDepth 100000 in
theorem cf_X6_wearOf_l4 {R : Type} (hA : ∀ h : Hp, va_D A (emb h)) (X : Cx p s m args meth c RX6 cX6_wearOf 3 (some .int) o)  (hO : isX6 o emb)  (h : Hp) {kx : Int32 → Int32 → Option R} (t : R) : ∀ (n : Nat) (s1 : Int32) (s2 : Int32), f_X6_wearOf_l4 h kx n s1 s2 = some t → (∀ (s1 : Int32) (s2 : Int32), kx s1 s2 = some t → J p l e (rmf 1 22) s m args below meth c 0 0 Z o emb A H0 3 44 [(1, .int s1)] [] h) → J p l e (rmf 1 22) s m args below meth c 0 0 Z o emb A H0 3 4 [(0, .ref (o.1 0)), (1, .int s1), (2, .int s2)] [] h := by
  intro n
  induction n with
  | zero =>
    intro s1 s2 hf hk
    cases hf
  | succ n ih =>
    intro s1 s2 hf hk
    rw [f_X6_wearOf_l4] at hf
    refine J_iload_n X 2 dX6_wearOf_4 rfl rfl ?_
    refine J_bipush X (81 : Int32) dX6_wearOf_5 (by decide) ?_
    refine J_icmp_ge (tgt := 44) X dX6_wearOf_7 (by decide) (fun c7 => ?_) (fun c7 => ?_)
    · rw [if_pos c7] at hf
      exact J_sub [1] rfl (hk s1 s2 hf)
    · rw [if_neg c7] at hf
      refine J_iload_n X 1 dX6_wearOf_10 rfl rfl ?_
      refine J_aload_n X 0 dX6_wearOf_11 rfl rfl ?_
      refine J_get X hO.1 inX6 rfl 1 (Nat.le_of_ble_eq_true rfl) wd_592 rfl (v := .ref (o.1 2)) rfl dX6_wearOf_12 ?_
      refine J_iload_n X 2 dX6_wearOf_15 rfl rfl ?_
      obtain ⟨v1, qv1, hf⟩ := ob hf
      refine J_iald X hO.2.2.1 (ald_s qv1).1 dX6_wearOf_16 ?_
      refine J_topi v1 (ald_s qv1).2 ?_
      refine J_const X (0 : Int32) dX6_wearOf_17 (by decide) ?_
      refine J_bipush X (9 : Int32) dX6_wearOf_18 (by decide) ?_
      obtain ⟨v2, qv2, hf⟩ := ob hf
      refine J_callS X (rest := [.int s1]) (rs := [.int v2, .int s1]) (c_X6_in l o emb A hA v1 (0 : Int32) (9 : Int32) h v2 qv2) wd_660 wd_661 wd_41 wd_662 hd_X6_in ⟨Nat.le_of_ble_eq_true rfl, Nat.le_of_ble_eq_true rfl⟩ ⟨Nat.zero_le _, Nat.zero_le _⟩ (Nat.le_of_ble_eq_true rfl) dX6_wearOf_20 rfl rfl ?_
      obtain ⟨t4, qt4, hf⟩ := ob hf
      have yk3 : J p l e (rmf 1 22) s m args below meth c 0 0 Z o emb A H0 3 36 [(0, .ref (o.1 0)), (2, .int s2)] [.int t4, .int s1] h := by
        refine J_iadd X dX6_wearOf_36 ?_
        obtain ⟨v5, qv5, hf⟩ := ob hf
        refine J_topi v5 (Option.some.inj qv5) ?_
        refine J_istore_n X [(1, .int v5), (0, .ref (o.1 0)), (2, .int s2)] dX6_wearOf_37 rfl (Nat.le_of_ble_eq_true rfl) rfl ?_
        obtain ⟨v6, qv6, hf⟩ := ob hf
        refine J_iinc X 2 [(2, .int v6), (1, .int v5), (0, .ref (o.1 0))] dX6_wearOf_38 rfl (Option.some.inj qv6) (Nat.le_of_ble_eq_true rfl) rfl ?_
        refine J_goto (tgt := 4) X dX6_wearOf_41 (by decide) ?_
        exact J_sub [2, 1, 0] rfl (ih v5 v6 hf hk)
      clear hf
      have hf := qt4
      clear qt4
      refine J_if_eq (tgt := 35) X dX6_wearOf_23 (by decide) (fun c23 => ?_) (fun c23 => ?_)
      · rw [if_pos c23] at hf
        refine J_const X (0 : Int32) dX6_wearOf_35 (by decide) ?_
        cases hf
        exact J_sub [0, 2] rfl yk3
      · rw [if_neg c23] at hf
        refine J_aload_n X 0 dX6_wearOf_26 rfl rfl ?_
        refine J_get X hO.1 inX6 rfl 1 (Nat.le_of_ble_eq_true rfl) wd_592 rfl (v := .ref (o.1 2)) rfl dX6_wearOf_27 ?_
        refine J_iload_n X 2 dX6_wearOf_30 rfl rfl ?_
        obtain ⟨v7, qv7, hf⟩ := ob hf
        refine J_iald X hO.2.2.1 (ald_s qv7).1 dX6_wearOf_31 ?_
        refine J_topi v7 (ald_s qv7).2 ?_
        refine J_goto (tgt := 36) X dX6_wearOf_32 (by decide) ?_
        cases hf
        exact J_sub [0, 2] rfl yk3
set_option maxHeartbeats 4000000 in
set_option maxRecDepth 100000 in
theorem c_X6_wearOf (l : Launch) (o : Om) (emb : Hp → va_W) (A : Nat → Prop) (hA : ∀ h : Hp, va_D A (emb h)) (hO : isX6 o emb) (h : Hp) (r : Int32) (hf : f_X6_wearOf h = some r) : Ct l o emb A yX6_wearOf cX6_wearOf 3 (some .int) 1 22 [.ref (o.1 0)] h (some (.int r)) h := by
  refine Ct.of RX6 rfl (by decide +kernel) hA (Nat.le_of_ble_eq_true rfl) (fun p e s m args below meth c X => ?_)
  refine J_sub (lo' := [(0, .ref (o.1 0))]) [0] rfl ?_
  rw [f_X6_wearOf] at hf
  refine J_const X (0 : Int32) dX6_wearOf_0 (by decide) ?_
  refine J_istore_n X [(1, .int (0 : Int32)), (0, .ref (o.1 0))] dX6_wearOf_1 rfl (Nat.le_of_ble_eq_true rfl) rfl ?_
  refine J_const X (0 : Int32) dX6_wearOf_2 (by decide) ?_
  refine J_istore_n X [(2, .int (0 : Int32)), (1, .int (0 : Int32)), (0, .ref (o.1 0))] dX6_wearOf_3 rfl (Nat.le_of_ble_eq_true rfl) rfl ?_
  refine J_sub (lo' := [(0, .ref (o.1 0)), (1, .int (0 : Int32)), (2, .int (0 : Int32))]) [2, 1, 0] rfl ?_
  refine cf_X6_wearOf_l4 hA X  hO  h _ _ (0 : Int32) (0 : Int32) hf (fun w8 w9 hf => ?_)
  refine J_iload_n X 0 dX6_wearOf_44 rfl rfl ?_
  refine J_const X (2 : Int32) dX6_wearOf_45 (by decide) ?_
  refine J_idiv X dX6_wearOf_46 (by decide) ?_
  cases hf
  exact J_iret X dX6_wearOf_47
theorem hd_X6_goDays : yX6_goDays.cls ≠ "java/lang/invoke/MethodHandle" ∧ yX6_goDays.cls ≠ "java/lang/invoke/VarHandle" ∧ (parseMethodDescriptor yX6_goDays.desc).map (fun d => d.parameters.length) = some 0 := by decide +kernel
set_option maxHeartbeats 4000000 in
set_option maxRecDepth 100000 in
theorem cf_X6_goDays_l11 (hA : ∀ h : Hp, va_D A (emb h)) (X : Cx p s m args meth c RX6 cX6_goDays 7 (some .int) o)  (hO : isX6 o emb)  {kx : Int32 → Hp → Option (Int32 × Hp)} (r : Int32) (h' : Hp) : ∀ (n : Nat) (s1 : Int32) (h : Hp), f_X6_goDays_l11 kx n s1 h = some (r, h') → (∀ (s1 : Int32) (h : Hp), kx s1 h = some (r, h') → J p l e (rmf 3 68) s m args below meth c 0 0 (MQ below (WdQ o emb A (some (.int r)) h') args s 0 0 A) o emb A s.heap 7 328 [] [] h) → J p l e (rmf 3 68) s m args below meth c 0 0 (MQ below (WdQ o emb A (some (.int r)) h') args s 0 0 A) o emb A s.heap 7 11 [(0, .ref (o.1 0)), (1, .int s1)] [] h := by
  intro n
  induction n with
  | zero =>
    intro s1 h hf hk
    cases hf
  | succ n ih =>
    intro s1 h hf hk
    rw [f_X6_goDays_l11] at hf
    refine J_iload_n X 1 dX6_goDays_11 rfl rfl ?_
    refine J_aload_n X 0 dX6_goDays_12 rfl rfl ?_
    refine J_get X hO.1 inX6 rfl 5 (Nat.le_of_ble_eq_true rfl) wd_596 rfl (v := .int (h.1 0 5)) rfl dX6_goDays_13 ?_
    refine J_icmp_ge (tgt := 328) X dX6_goDays_16 (by decide) (fun c16 => ?_) (fun c16 => ?_)
    · rw [if_pos c16] at hf
      exact J_sub [] rfl (hk s1 h hf)
    · rw [if_neg c16] at hf
      refine J_aload_n X 0 dX6_goDays_19 rfl rfl ?_
      refine J_get X hO.1 inX6 rfl 6 (Nat.le_of_ble_eq_true rfl) wd_597 rfl (v := .ref (o.1 4)) rfl dX6_goDays_20 ?_
      refine J_iload_n X 1 dX6_goDays_23 rfl rfl ?_
      obtain ⟨v3, qv3, hf⟩ := ob hf
      refine J_iald X hO.2.2.2.2.1 (ald_s qv3).1 dX6_goDays_24 ?_
      refine J_topi v3 (ald_s qv3).2 ?_
      refine J_istore_n X [(2, .int v3), (0, .ref (o.1 0)), (1, .int s1)] dX6_goDays_25 rfl (Nat.le_of_ble_eq_true rfl) rfl ?_
      refine J_iload_n X 0 dX6_goDays_26 rfl rfl ?_
      refine J_bipush X (46 : Int32) dX6_goDays_27 (by decide) ?_
      obtain ⟨t5, qt5, hf⟩ := ob hf
      have yk4 : J p l e (rmf 3 68) s m args below meth c 0 0 (MQ below (WdQ o emb A (some (.int r)) h') args s 0 0 A) o emb A s.heap 7 303 [(0, .ref (o.1 0)), (1, .int t5.1)] [] t5.2 := by
        refine J_aload_n X 0 dX6_goDays_303 rfl rfl ?_
        refine J_get X hO.1 inX6 rfl 9 (Nat.le_of_ble_eq_true rfl) wd_600 rfl (v := .int (t5.2.1 0 9)) rfl dX6_goDays_304 ?_
        refine J_if_le (tgt := 315) X dX6_goDays_307 (by decide) (fun c307 => ?_) (fun c307 => ?_)
        · rw [if_pos c307] at hf
          refine J_aload_n X 0 dX6_goDays_315 rfl rfl ?_
          refine J_dup X dX6_goDays_316 rfl ?_
          refine J_get X hO.1 inX6 rfl 10 (Nat.le_of_ble_eq_true rfl) wd_601 rfl (v := .int (t5.2.1 0 10)) rfl dX6_goDays_317 ?_
          refine J_const X (1 : Int32) dX6_goDays_320 (by decide) ?_
          refine J_iadd X dX6_goDays_321 ?_
          obtain ⟨h6, qh6, hf⟩ := ob hf
          refine J_put X hO.1 inX6 tyX6 tyX6_ok nmX6 rfl 10 (Nat.le_of_ble_eq_true rfl) (by decide) wd_601 rfl rfl (ty := .int) (by decide +kernel) rfl rfl (Nat.le_of_ble_eq_true rfl) dX6_goDays_322 ?_
          refine J_hp h6 (Option.some.inj qh6) ?_
          refine J_goto (tgt := 11) X dX6_goDays_325 (by decide) ?_
          exact J_sub [0, 1] rfl (ih t5.1 h6 hf hk)
        · rw [if_neg c307] at hf
          refine J_aload_n X 0 dX6_goDays_310 rfl rfl ?_
          refine J_get X hO.1 inX6 rfl 10 (Nat.le_of_ble_eq_true rfl) wd_601 rfl (v := .int (t5.2.1 0 10)) rfl dX6_goDays_311 ?_
          cases hf
          exact J_iret X dX6_goDays_314
      clear hf
      have hf := qt5
      clear qt5
      refine J_icmp_ne (tgt := 46) X dX6_goDays_29 (by decide) (fun c29 => ?_) (fun c29 => ?_)
      · rw [if_neg c29] at hf
        refine J_iload_n X 0 dX6_goDays_46 rfl rfl ?_
        refine J_bipush X (109 : Int32) dX6_goDays_47 (by decide) ?_
        refine J_icmp_ne (tgt := 88) X dX6_goDays_49 (by decide) (fun c49 => ?_) (fun c49 => ?_)
        · rw [if_neg c49] at hf
          refine J_iload_n X 0 dX6_goDays_88 rfl rfl ?_
          refine J_bipush X (112 : Int32) dX6_goDays_89 (by decide) ?_
          refine J_icmp_ne (tgt := 152) X dX6_goDays_91 (by decide) (fun c91 => ?_) (fun c91 => ?_)
          · rw [if_neg c91] at hf
            refine J_iload_n X 0 dX6_goDays_152 rfl rfl ?_
            refine J_bipush X (65 : Int32) dX6_goDays_153 (by decide) ?_
            refine J_isub X dX6_goDays_155 ?_
            obtain ⟨v7, qv7, hf⟩ := ob hf
            refine J_topi v7 (Option.some.inj qv7) ?_
            refine J_istore_n X [(3, .int v7), (2, .int v3), (0, .ref (o.1 0)), (1, .int s1)] dX6_goDays_156 rfl (Nat.le_of_ble_eq_true rfl) rfl ?_
            refine J_aload_n X 2 dX6_goDays_157 rfl rfl ?_
            refine J_get X hO.1 inX6 rfl 6 (Nat.le_of_ble_eq_true rfl) wd_597 rfl (v := .ref (o.1 4)) rfl dX6_goDays_158 ?_
            refine J_iload_n X 3 dX6_goDays_161 rfl rfl ?_
            refine J_const X (1 : Int32) dX6_goDays_162 (by decide) ?_
            refine J_iadd X dX6_goDays_163 ?_
            obtain ⟨v8, qv8, hf⟩ := ob hf
            refine J_iald X hO.2.2.2.2.1 (ald_s qv8).1 dX6_goDays_164 ?_
            refine J_topi v8 (ald_s qv8).2 ?_
            refine J_bipush X (97 : Int32) dX6_goDays_165 (by decide) ?_
            refine J_isub X dX6_goDays_167 ?_
            obtain ⟨v9, qv9, hf⟩ := ob hf
            refine J_topi v9 (Option.some.inj qv9) ?_
            refine J_istore X [(4, .int v9), (3, .int v7), (2, .int v3), (0, .ref (o.1 0)), (1, .int s1)] dX6_goDays_168 (Nat.le_of_ble_eq_true rfl) rfl ?_
            refine J_aload_n X 3 dX6_goDays_170 rfl rfl ?_
            refine J_get X hO.1 inX6 rfl 1 (Nat.le_of_ble_eq_true rfl) wd_592 rfl (v := .ref (o.1 2)) rfl dX6_goDays_171 ?_
            refine J_bipush X (81 : Int32) dX6_goDays_174 (by decide) ?_
            refine J_iload_n X 1 dX6_goDays_176 rfl rfl ?_
            refine J_iadd X dX6_goDays_177 ?_
            obtain ⟨v10, qv10, hf⟩ := ob hf
            refine J_iald X hO.2.2.1 (ald_s qv10).1 dX6_goDays_178 ?_
            refine J_topi v10 (ald_s qv10).2 ?_
            refine J_istore X [(5, .int v10), (4, .int v9), (3, .int v7), (2, .int v3), (0, .ref (o.1 0)), (1, .int s1)] dX6_goDays_179 (Nat.le_of_ble_eq_true rfl) rfl ?_
            refine J_aload_n X 4 dX6_goDays_181 rfl rfl ?_
            refine J_get X hO.1 inX6 rfl 6 (Nat.le_of_ble_eq_true rfl) wd_597 rfl (v := .ref (o.1 4)) rfl dX6_goDays_182 ?_
            refine J_iload_n X 5 dX6_goDays_185 rfl rfl ?_
            refine J_const X (1 : Int32) dX6_goDays_186 (by decide) ?_
            refine J_iadd X dX6_goDays_187 ?_
            obtain ⟨v11, qv11, hf⟩ := ob hf
            refine J_iald X hO.2.2.2.2.1 (ald_s qv11).1 dX6_goDays_188 ?_
            refine J_topi v11 (ald_s qv11).2 ?_
            refine J_bipush X (94 : Int32) dX6_goDays_189 (by decide) ?_
            obtain ⟨t13, qt13, hf⟩ := ob hf
            have yk12 : J p l e (rmf 3 68) s m args below meth c 0 0 (MQ below (WdQ o emb A (some (.int r)) h') args s 0 0 A) o emb A s.heap 7 199 [(0, .ref (o.1 0)), (1, .int s1), (3, .int v7), (4, .int v9), (5, .int v10)] [.int t13] h := by
              refine J_istore X [(6, .int t13), (0, .ref (o.1 0)), (1, .int s1), (3, .int v7), (4, .int v9), (5, .int v10)] dX6_goDays_199 (Nat.le_of_ble_eq_true rfl) rfl ?_
              refine J_aload_n X 1 dX6_goDays_201 rfl rfl ?_
              refine J_iload X 0 dX6_goDays_202 rfl ?_
              obtain ⟨t15, qt15, hf⟩ := ob hf
              have yk14 : J p l e (rmf 3 68) s m args below meth c 0 0 (MQ below (WdQ o emb A (some (.int r)) h') args s 0 0 A) o emb A s.heap 7 222 [(0, .ref (o.1 0)), (1, .int s1), (4, .int v9), (5, .int v10), (6, .int t13)] [.int t15.1, .ref (o.1 0)] t15.2 := by
                obtain ⟨h16, qh16, hf⟩ := ob hf
                refine J_put X hO.1 inX6 tyX6 tyX6_ok nmX6 rfl 9 (Nat.le_of_ble_eq_true rfl) (by decide) wd_600 rfl rfl (ty := .int) (by decide +kernel) rfl rfl (Nat.le_of_ble_eq_true rfl) dX6_goDays_222 ?_
                refine J_hp h16 (Option.some.inj qh16) ?_
                refine J_iload X 4 dX6_goDays_225 rfl ?_
                refine J_if_eq (tgt := 300) X dX6_goDays_227 (by decide) (fun c227 => ?_) (fun c227 => ?_)
                · rw [if_pos c227] at hf
                  obtain ⟨v17, qv17, hf⟩ := ob hf
                  refine J_iinc X 1 [(1, .int v17), (0, .ref (o.1 0)), (4, .int v9), (5, .int v10), (6, .int t13)] dX6_goDays_300 rfl (Option.some.inj qv17) (Nat.le_of_ble_eq_true rfl) rfl ?_
                  cases hf
                  exact J_sub [1, 0] rfl yk4
                · rw [if_neg c227] at hf
                  refine J_aload_n X 0 dX6_goDays_230 rfl rfl ?_
                  refine J_get X hO.1 inX6 rfl 9 (Nat.le_of_ble_eq_true rfl) wd_600 rfl (v := .int (h16.1 0 9)) rfl dX6_goDays_231 ?_
                  refine J_if_ne (tgt := 300) X dX6_goDays_234 (by decide) (fun c234 => ?_) (fun c234 => ?_)
                  · rw [if_neg c234] at hf
                    obtain ⟨v18, qv18, hf⟩ := ob hf
                    refine J_iinc X 1 [(1, .int v18), (0, .ref (o.1 0)), (4, .int v9), (5, .int v10), (6, .int t13)] dX6_goDays_300 rfl (Option.some.inj qv18) (Nat.le_of_ble_eq_true rfl) rfl ?_
                    cases hf
                    exact J_sub [1, 0] rfl yk4
                  · rw [if_pos c234] at hf
                    refine J_aload_n X 0 dX6_goDays_237 rfl rfl ?_
                    refine J_get X hO.1 inX6 rfl 1 (Nat.le_of_ble_eq_true rfl) wd_592 rfl (v := .ref (o.1 2)) rfl dX6_goDays_238 ?_
                    refine J_bipush X (9 : Int32) dX6_goDays_241 (by decide) ?_
                    refine J_iload X 3 dX6_goDays_243 rfl ?_
                    refine J_imul X dX6_goDays_245 ?_
                    refine J_iload X 2 dX6_goDays_246 rfl ?_
                    refine J_iadd X dX6_goDays_248 ?_
                    obtain ⟨v19, qv19, hf⟩ := ob hf
                    refine J_iald X hO.2.2.1 (ald_s qv19).1 dX6_goDays_249 ?_
                    refine J_topi v19 (ald_s qv19).2 ?_
                    refine J_bipush X (9 : Int32) dX6_goDays_250 (by decide) ?_
                    refine J_icmp_ne (tgt := 300) X dX6_goDays_252 (by decide) (fun c252 => ?_) (fun c252 => ?_)
                    · rw [if_neg c252] at hf
                      obtain ⟨v20, qv20, hf⟩ := ob hf
                      refine J_iinc X 1 [(1, .int v20), (0, .ref (o.1 0)), (4, .int v9), (5, .int v10), (6, .int t13)] dX6_goDays_300 rfl (Option.some.inj qv20) (Nat.le_of_ble_eq_true rfl) rfl ?_
                      cases hf
                      exact J_sub [1, 0] rfl yk4
                    · rw [if_pos c252] at hf
                      refine J_aload_n X 0 dX6_goDays_255 rfl rfl ?_
                      refine J_get X hO.1 inX6 rfl 7 (Nat.le_of_ble_eq_true rfl) wd_598 rfl (v := .int (h16.1 0 7)) rfl dX6_goDays_256 ?_
                      refine J_if_ge (tgt := 300) X dX6_goDays_259 (by decide) (fun c259 => ?_) (fun c259 => ?_)
                      · rw [if_pos c259] at hf
                        obtain ⟨v21, qv21, hf⟩ := ob hf
                        refine J_iinc X 1 [(1, .int v21), (0, .ref (o.1 0)), (4, .int v9), (5, .int v10), (6, .int t13)] dX6_goDays_300 rfl (Option.some.inj qv21) (Nat.le_of_ble_eq_true rfl) rfl ?_
                        cases hf
                        exact J_sub [1, 0] rfl yk4
                      · rw [if_neg c259] at hf
                        refine J_aload_n X 0 dX6_goDays_262 rfl rfl ?_
                        refine J_aload_n X 0 dX6_goDays_263 rfl rfl ?_
                        refine J_get X hO.1 inX6 rfl 10 (Nat.le_of_ble_eq_true rfl) wd_601 rfl (v := .int (h16.1 0 10)) rfl dX6_goDays_264 ?_
                        obtain ⟨h22, qh22, hf⟩ := ob hf
                        refine J_put X hO.1 inX6 tyX6 tyX6_ok nmX6 rfl 7 (Nat.le_of_ble_eq_true rfl) (by decide) wd_598 rfl rfl (ty := .int) (by decide +kernel) rfl rfl (Nat.le_of_ble_eq_true rfl) dX6_goDays_267 ?_
                        refine J_hp h22 (Option.some.inj qh22) ?_
                        refine J_aload_n X 0 dX6_goDays_270 rfl rfl ?_
                        refine J_iload X 3 dX6_goDays_271 rfl ?_
                        refine J_iload X 2 dX6_goDays_273 rfl ?_
                        refine J_icmp_ge (tgt := 289) X dX6_goDays_275 (by decide) (fun c275 => ?_) (fun c275 => ?_)
                        · rw [if_pos c275] at hf
                          refine J_bipush X (10 : Int32) dX6_goDays_289 (by decide) ?_
                          refine J_iload X 2 dX6_goDays_291 rfl ?_
                          refine J_imul X dX6_goDays_293 ?_
                          refine J_iload X 3 dX6_goDays_294 rfl ?_
                          refine J_iadd X dX6_goDays_296 ?_
                          obtain ⟨h23, qh23, hf⟩ := ob hf
                          refine J_put X hO.1 inX6 tyX6 tyX6_ok nmX6 rfl 8 (Nat.le_of_ble_eq_true rfl) (by decide) wd_599 rfl rfl (ty := .int) (by decide +kernel) rfl rfl (Nat.le_of_ble_eq_true rfl) dX6_goDays_297 ?_
                          refine J_hp h23 (Option.some.inj qh23) ?_
                          obtain ⟨v24, qv24, hf⟩ := ob hf
                          refine J_iinc X 1 [(1, .int v24), (0, .ref (o.1 0)), (4, .int v9), (5, .int v10), (6, .int t13)] dX6_goDays_300 rfl (Option.some.inj qv24) (Nat.le_of_ble_eq_true rfl) rfl ?_
                          cases hf
                          exact J_sub [1, 0] rfl yk4
                        · rw [if_neg c275] at hf
                          refine J_bipush X (10 : Int32) dX6_goDays_278 (by decide) ?_
                          refine J_iload X 3 dX6_goDays_280 rfl ?_
                          refine J_imul X dX6_goDays_282 ?_
                          refine J_iload X 2 dX6_goDays_283 rfl ?_
                          refine J_iadd X dX6_goDays_285 ?_
                          refine J_goto (tgt := 297) X dX6_goDays_286 (by decide) ?_
                          obtain ⟨h25, qh25, hf⟩ := ob hf
                          refine J_put X hO.1 inX6 tyX6 tyX6_ok nmX6 rfl 8 (Nat.le_of_ble_eq_true rfl) (by decide) wd_599 rfl rfl (ty := .int) (by decide +kernel) rfl rfl (Nat.le_of_ble_eq_true rfl) dX6_goDays_297 ?_
                          refine J_hp h25 (Option.some.inj qh25) ?_
                          obtain ⟨v26, qv26, hf⟩ := ob hf
                          refine J_iinc X 1 [(1, .int v26), (0, .ref (o.1 0)), (4, .int v9), (5, .int v10), (6, .int t13)] dX6_goDays_300 rfl (Option.some.inj qv26) (Nat.le_of_ble_eq_true rfl) rfl ?_
                          cases hf
                          exact J_sub [1, 0] rfl yk4
              clear hf
              have hf := qt15
              clear qt15
              refine J_if_eq (tgt := 217) X dX6_goDays_204 (by decide) (fun c204 => ?_) (fun c204 => ?_)
              · rw [if_pos c204] at hf
                refine J_aload_n X 1 dX6_goDays_217 rfl rfl ?_
                refine J_iload_n X 3 dX6_goDays_218 rfl rfl ?_
                obtain ⟨t27, qt27, hf⟩ := ob hf
                refine J_callV X (rest := [.ref (o.1 0)]) (rs := [.int t27.1, .ref (o.1 0)]) (c_X6_shoe l o emb A hA hO v7 h t27.1 t27.2 qt27) hO.1 rfl rfl wd_733 wd_735 wd_25 wd_41 wd_736 hd_X6_shoe ⟨Nat.le_of_ble_eq_true rfl, Nat.le_of_ble_eq_true rfl⟩ ⟨Nat.zero_le _, Nat.zero_le _⟩ (Nat.le_of_ble_eq_true rfl) dX6_goDays_219 rfl rfl ?_
                cases hf
                exact J_sub [1, 2, 4, 5, 0] rfl yk14
              · rw [if_neg c204] at hf
                refine J_aload_n X 1 dX6_goDays_207 rfl rfl ?_
                refine J_iload_n X 3 dX6_goDays_208 rfl rfl ?_
                refine J_iload X 4 dX6_goDays_209 rfl ?_
                obtain ⟨t28, qt28, hf⟩ := ob hf
                refine J_callV X (rest := [.ref (o.1 0)]) (rs := [.int t28.1, .ref (o.1 0)]) (c_X6_walk l o emb A hA hO v7 v9 h t28.1 t28.2 qt28) hO.1 rfl rfl wd_722 wd_724 wd_23 wd_41 wd_725 hd_X6_walk ⟨Nat.le_of_ble_eq_true rfl, Nat.le_of_ble_eq_true rfl⟩ ⟨Nat.zero_le _, Nat.zero_le _⟩ (Nat.le_of_ble_eq_true rfl) dX6_goDays_211 rfl rfl ?_
                refine J_goto (tgt := 222) X dX6_goDays_214 (by decide) ?_
                cases hf
                exact J_sub [1, 2, 4, 5, 0] rfl yk14
            clear hf
            have hf := qt13
            clear qt13
            refine J_icmp_eq (tgt := 198) X dX6_goDays_191 (by decide) (fun c191 => ?_) (fun c191 => ?_)
            · rw [if_pos c191] at hf
              refine J_const X (0 : Int32) dX6_goDays_198 (by decide) ?_
              cases hf
              exact J_sub [4, 5, 2, 1, 0] rfl yk12
            · rw [if_neg c191] at hf
              refine J_const X (1 : Int32) dX6_goDays_194 (by decide) ?_
              refine J_goto (tgt := 199) X dX6_goDays_195 (by decide) ?_
              cases hf
              exact J_sub [4, 5, 2, 1, 0] rfl yk12
          · rw [if_pos c91] at hf
            refine J_aload_n X 1 dX6_goDays_94 rfl rfl ?_
            refine J_aload_n X 1 dX6_goDays_95 rfl rfl ?_
            refine J_aload_n X 1 dX6_goDays_96 rfl rfl ?_
            refine J_get X hO.1 inX6 rfl 6 (Nat.le_of_ble_eq_true rfl) wd_597 rfl (v := .ref (o.1 4)) rfl dX6_goDays_97 ?_
            refine J_iload_n X 2 dX6_goDays_100 rfl rfl ?_
            refine J_const X (1 : Int32) dX6_goDays_101 (by decide) ?_
            refine J_iadd X dX6_goDays_102 ?_
            obtain ⟨v29, qv29, hf⟩ := ob hf
            refine J_iald X hO.2.2.2.2.1 (ald_s qv29).1 dX6_goDays_103 ?_
            refine J_topi v29 (ald_s qv29).2 ?_
            refine J_bipush X (97 : Int32) dX6_goDays_104 (by decide) ?_
            refine J_isub X dX6_goDays_106 ?_
            refine J_aload_n X 1 dX6_goDays_107 rfl rfl ?_
            refine J_get X hO.1 inX6 rfl 6 (Nat.le_of_ble_eq_true rfl) wd_597 rfl (v := .ref (o.1 4)) rfl dX6_goDays_108 ?_
            refine J_iload_n X 2 dX6_goDays_111 rfl rfl ?_
            refine J_const X (2 : Int32) dX6_goDays_112 (by decide) ?_
            refine J_iadd X dX6_goDays_113 ?_
            obtain ⟨v30, qv30, hf⟩ := ob hf
            refine J_iald X hO.2.2.2.2.1 (ald_s qv30).1 dX6_goDays_114 ?_
            refine J_topi v30 (ald_s qv30).2 ?_
            refine J_bipush X (97 : Int32) dX6_goDays_115 (by decide) ?_
            refine J_isub X dX6_goDays_117 ?_
            refine J_aload_n X 1 dX6_goDays_118 rfl rfl ?_
            refine J_get X hO.1 inX6 rfl 6 (Nat.le_of_ble_eq_true rfl) wd_597 rfl (v := .ref (o.1 4)) rfl dX6_goDays_119 ?_
            refine J_iload_n X 2 dX6_goDays_122 rfl rfl ?_
            refine J_const X (3 : Int32) dX6_goDays_123 (by decide) ?_
            refine J_iadd X dX6_goDays_124 ?_
            obtain ⟨v31, qv31, hf⟩ := ob hf
            refine J_iald X hO.2.2.2.2.1 (ald_s qv31).1 dX6_goDays_125 ?_
            refine J_topi v31 (ald_s qv31).2 ?_
            refine J_bipush X (97 : Int32) dX6_goDays_126 (by decide) ?_
            refine J_isub X dX6_goDays_128 ?_
            refine J_aload_n X 1 dX6_goDays_129 rfl rfl ?_
            refine J_get X hO.1 inX6 rfl 6 (Nat.le_of_ble_eq_true rfl) wd_597 rfl (v := .ref (o.1 4)) rfl dX6_goDays_130 ?_
            refine J_iload_n X 2 dX6_goDays_133 rfl rfl ?_
            refine J_const X (4 : Int32) dX6_goDays_134 (by decide) ?_
            refine J_iadd X dX6_goDays_135 ?_
            obtain ⟨v32, qv32, hf⟩ := ob hf
            refine J_iald X hO.2.2.2.2.1 (ald_s qv32).1 dX6_goDays_136 ?_
            refine J_topi v32 (ald_s qv32).2 ?_
            refine J_bipush X (97 : Int32) dX6_goDays_137 (by decide) ?_
            refine J_isub X dX6_goDays_139 ?_
            obtain ⟨t33, qt33, hf⟩ := ob hf
            refine J_callV X (rest := [.ref (o.1 0)]) (rs := [.int t33.1, .ref (o.1 0)]) (c_X6_patch l o emb A hA hO (v29 - (97 : Int32)) (v30 - (97 : Int32)) (v31 - (97 : Int32)) (v32 - (97 : Int32)) h t33.1 t33.2 qt33) hO.1 rfl rfl wd_718 wd_720 wd_22 wd_41 wd_721 hd_X6_patch ⟨Nat.le_of_ble_eq_true rfl, Nat.le_of_ble_eq_true rfl⟩ ⟨Nat.zero_le _, Nat.zero_le _⟩ (Nat.le_of_ble_eq_true rfl) dX6_goDays_140 rfl rfl ?_
            obtain ⟨h34, qh34, hf⟩ := ob hf
            refine J_put X hO.1 inX6 tyX6 tyX6_ok nmX6 rfl 9 (Nat.le_of_ble_eq_true rfl) (by decide) wd_600 rfl rfl (ty := .int) (by decide +kernel) rfl rfl (Nat.le_of_ble_eq_true rfl) dX6_goDays_143 ?_
            refine J_hp h34 (Option.some.inj qh34) ?_
            obtain ⟨v35, qv35, hf⟩ := ob hf
            refine J_iinc X 2 [(1, .int v35), (2, .int v3), (0, .ref (o.1 0))] dX6_goDays_146 rfl (Option.some.inj qv35) (Nat.le_of_ble_eq_true rfl) rfl ?_
            refine J_goto (tgt := 303) X dX6_goDays_149 (by decide) ?_
            cases hf
            exact J_sub [2, 0] rfl yk4
        · rw [if_pos c49] at hf
          refine J_aload_n X 1 dX6_goDays_52 rfl rfl ?_
          refine J_aload_n X 1 dX6_goDays_53 rfl rfl ?_
          refine J_aload_n X 1 dX6_goDays_54 rfl rfl ?_
          refine J_get X hO.1 inX6 rfl 6 (Nat.le_of_ble_eq_true rfl) wd_597 rfl (v := .ref (o.1 4)) rfl dX6_goDays_55 ?_
          refine J_iload_n X 2 dX6_goDays_58 rfl rfl ?_
          refine J_const X (1 : Int32) dX6_goDays_59 (by decide) ?_
          refine J_iadd X dX6_goDays_60 ?_
          obtain ⟨v36, qv36, hf⟩ := ob hf
          refine J_iald X hO.2.2.2.2.1 (ald_s qv36).1 dX6_goDays_61 ?_
          refine J_topi v36 (ald_s qv36).2 ?_
          refine J_bipush X (97 : Int32) dX6_goDays_62 (by decide) ?_
          refine J_isub X dX6_goDays_64 ?_
          refine J_aload_n X 1 dX6_goDays_65 rfl rfl ?_
          refine J_get X hO.1 inX6 rfl 6 (Nat.le_of_ble_eq_true rfl) wd_597 rfl (v := .ref (o.1 4)) rfl dX6_goDays_66 ?_
          refine J_iload_n X 2 dX6_goDays_69 rfl rfl ?_
          refine J_const X (2 : Int32) dX6_goDays_70 (by decide) ?_
          refine J_iadd X dX6_goDays_71 ?_
          obtain ⟨v37, qv37, hf⟩ := ob hf
          refine J_iald X hO.2.2.2.2.1 (ald_s qv37).1 dX6_goDays_72 ?_
          refine J_topi v37 (ald_s qv37).2 ?_
          refine J_bipush X (97 : Int32) dX6_goDays_73 (by decide) ?_
          refine J_isub X dX6_goDays_75 ?_
          obtain ⟨t38, qt38, hf⟩ := ob hf
          refine J_callV X (rest := [.ref (o.1 0)]) (rs := [.int t38.1, .ref (o.1 0)]) (c_X6_bring l o emb A hA hO (v36 - (97 : Int32)) (v37 - (97 : Int32)) h t38.1 t38.2 qt38) hO.1 rfl rfl wd_706 wd_708 wd_19 wd_41 wd_709 hd_X6_bring ⟨Nat.le_of_ble_eq_true rfl, Nat.le_of_ble_eq_true rfl⟩ ⟨Nat.zero_le _, Nat.zero_le _⟩ (Nat.le_of_ble_eq_true rfl) dX6_goDays_76 rfl rfl ?_
          obtain ⟨h39, qh39, hf⟩ := ob hf
          refine J_put X hO.1 inX6 tyX6 tyX6_ok nmX6 rfl 9 (Nat.le_of_ble_eq_true rfl) (by decide) wd_600 rfl rfl (ty := .int) (by decide +kernel) rfl rfl (Nat.le_of_ble_eq_true rfl) dX6_goDays_79 ?_
          refine J_hp h39 (Option.some.inj qh39) ?_
          obtain ⟨v40, qv40, hf⟩ := ob hf
          refine J_iinc X 2 [(1, .int v40), (2, .int v3), (0, .ref (o.1 0))] dX6_goDays_82 rfl (Option.some.inj qv40) (Nat.le_of_ble_eq_true rfl) rfl ?_
          refine J_goto (tgt := 303) X dX6_goDays_85 (by decide) ?_
          cases hf
          exact J_sub [2, 0] rfl yk4
      · rw [if_pos c29] at hf
        refine J_aload_n X 1 dX6_goDays_32 rfl rfl ?_
        refine J_aload_n X 1 dX6_goDays_33 rfl rfl ?_
        obtain ⟨t41, qt41, hf⟩ := ob hf
        refine J_callV X (rest := [.ref (o.1 0)]) (rs := [.int t41.1, .ref (o.1 0)]) (c_X6_endDay l o emb A hA hO h t41.1 t41.2 qt41) hO.1 rfl rfl wd_702 wd_704 wd_18 wd_41 wd_705 hd_X6_endDay ⟨Nat.le_of_ble_eq_true rfl, Nat.le_of_ble_eq_true rfl⟩ ⟨Nat.zero_le _, Nat.zero_le _⟩ (Nat.le_of_ble_eq_true rfl) dX6_goDays_34 rfl rfl ?_
        obtain ⟨h42, qh42, hf⟩ := ob hf
        refine J_put X hO.1 inX6 tyX6 tyX6_ok nmX6 rfl 9 (Nat.le_of_ble_eq_true rfl) (by decide) wd_600 rfl rfl (ty := .int) (by decide +kernel) rfl rfl (Nat.le_of_ble_eq_true rfl) dX6_goDays_37 ?_
        refine J_hp h42 (Option.some.inj qh42) ?_
        obtain ⟨v43, qv43, hf⟩ := ob hf
        refine J_iinc X 2 [(1, .int v43), (2, .int v3), (0, .ref (o.1 0))] dX6_goDays_40 rfl (Option.some.inj qv43) (Nat.le_of_ble_eq_true rfl) rfl ?_
        refine J_goto (tgt := 303) X dX6_goDays_43 (by decide) ?_
        cases hf
        exact J_sub [2, 0] rfl yk4
set_option maxHeartbeats 4000000 in
set_option maxRecDepth 100000 in
theorem c_X6_goDays (l : Launch) (o : Om) (emb : Hp → va_W) (A : Nat → Prop) (hA : ∀ h : Hp, va_D A (emb h)) (hO : isX6 o emb) (h : Hp) (r : Int32) (h' : Hp) (hf : f_X6_goDays h = some (r, h')) : Ct l o emb A yX6_goDays cX6_goDays 7 (some .int) 3 68 [.ref (o.1 0)] h (some (.int r)) h' := by
  refine Ct.of RX6 rfl (by decide +kernel) hA (Nat.le_of_ble_eq_true rfl) (fun p e s m args below meth c X => ?_)
  refine J_sub (lo' := [(0, .ref (o.1 0))]) [0] rfl ?_
  rw [f_X6_goDays] at hf
  refine J_aload_n X 0 dX6_goDays_0 rfl rfl ?_
  obtain ⟨h1, qh1, hf⟩ := ob hf
  refine J_callV X (rest := []) (rs := []) (c_X6_asNow l o emb A hA hO h h1 qh1) hO.1 rfl rfl wd_663 wd_665 wd_14 wd_41 wd_666 hd_X6_asNow ⟨Nat.le_of_ble_eq_true rfl, Nat.le_of_ble_eq_true rfl⟩ ⟨Nat.zero_le _, Nat.zero_le _⟩ (Nat.le_of_ble_eq_true rfl) dX6_goDays_1 rfl rfl ?_
  refine J_aload_n X 0 dX6_goDays_4 rfl rfl ?_
  refine J_const X (0 : Int32) dX6_goDays_5 (by decide) ?_
  obtain ⟨h2, qh2, hf⟩ := ob hf
  refine J_put X hO.1 inX6 tyX6 tyX6_ok nmX6 rfl 10 (Nat.le_of_ble_eq_true rfl) (by decide) wd_601 rfl rfl (ty := .int) (by decide +kernel) rfl rfl (Nat.le_of_ble_eq_true rfl) dX6_goDays_6 ?_
  refine J_hp h2 (Option.some.inj qh2) ?_
  refine J_const X (0 : Int32) dX6_goDays_9 (by decide) ?_
  refine J_istore_n X [(1, .int (0 : Int32)), (0, .ref (o.1 0))] dX6_goDays_10 rfl (Nat.le_of_ble_eq_true rfl) rfl ?_
  refine J_sub (lo' := [(0, .ref (o.1 0)), (1, .int (0 : Int32))]) [1, 0] rfl ?_
  refine cf_X6_goDays_l11 hA X  hO  r h' _ (0 : Int32) h2 hf (fun w44 h45 hf => ?_)
  refine J_bipush X (-6 : Int32) dX6_goDays_328 (by decide) ?_
  cases hf
  exact J_iret X dX6_goDays_330
theorem hd_X6_judge : yX6_judge.cls ≠ "java/lang/invoke/MethodHandle" ∧ yX6_judge.cls ≠ "java/lang/invoke/VarHandle" ∧ (parseMethodDescriptor yX6_judge.desc).map (fun d => d.parameters.length) = some 1 := by decide +kernel
set_option maxHeartbeats 4000000 in
set_option maxRecDepth 100000 in
theorem c_X6_judge (l : Launch) (o : Om) (emb : Hp → va_W) (A : Nat → Prop) (hA : ∀ h : Hp, va_D A (emb h)) (hO : isX6 o emb) (x1 : Int32) (h : Hp) (r : Int32) (h' : Hp) (hf : f_X6_judge x1 h = some (r, h')) : Ct l o emb A yX6_judge cX6_judge 3 (some .int) 4 94 [.ref (o.1 0), .int x1] h (some (.int r)) h' := by
  refine Ct.of RX6 rfl (by decide +kernel) hA (Nat.le_of_ble_eq_true rfl) (fun p e s m args below meth c X => ?_)
  refine J_sub (lo' := [(0, .ref (o.1 0)), (1, .int x1)]) [0, 1] rfl ?_
  rw [f_X6_judge] at hf
  refine J_iload_n X 1 dX6_judge_0 rfl rfl ?_
  refine J_const X (0 : Int32) dX6_judge_1 (by decide) ?_
  refine J_const X (1 : Int32) dX6_judge_2 (by decide) ?_
  obtain ⟨v1, qv1, hf⟩ := ob hf
  refine J_callS X (rest := []) (rs := [.int v1]) (c_X6_in l o emb A hA x1 (0 : Int32) (1 : Int32) h v1 qv1) wd_660 wd_661 wd_41 wd_662 hd_X6_in ⟨Nat.le_of_ble_eq_true rfl, Nat.le_of_ble_eq_true rfl⟩ ⟨Nat.zero_le _, Nat.zero_le _⟩ (Nat.le_of_ble_eq_true rfl) dX6_judge_3 rfl rfl ?_
  refine J_if_ne (tgt := 12) X dX6_judge_6 (by decide) (fun c6 => ?_) (fun c6 => ?_)
  · rw [if_neg c6] at hf
    refine J_aload_n X 0 dX6_judge_12 rfl rfl ?_
    obtain ⟨v2, qv2, hf⟩ := ob hf
    refine J_callV X (rest := []) (rs := [.int v2]) (c_X6_faultOf l o emb A hA hO h v2 qv2) hO.1 rfl rfl wd_690 wd_692 wd_16 wd_41 wd_693 hd_X6_faultOf ⟨Nat.le_of_ble_eq_true rfl, Nat.le_of_ble_eq_true rfl⟩ ⟨Nat.zero_le _, Nat.zero_le _⟩ (Nat.le_of_ble_eq_true rfl) dX6_judge_13 rfl rfl ?_
    refine J_if_lt (tgt := 22) X dX6_judge_16 (by decide) (fun c16 => ?_) (fun c16 => ?_)
    · rw [if_pos c16] at hf
      refine J_aload_n X 0 dX6_judge_22 rfl rfl ?_
      obtain ⟨t3, qt3, hf⟩ := ob hf
      refine J_callV X (rest := []) (rs := [.int t3.1]) (c_X6_goDays l o emb A hA hO h t3.1 t3.2 qt3) hO.1 rfl rfl wd_698 wd_700 wd_17 wd_41 wd_701 hd_X6_goDays ⟨Nat.le_of_ble_eq_true rfl, Nat.le_of_ble_eq_true rfl⟩ ⟨Nat.zero_le _, Nat.zero_le _⟩ (Nat.le_of_ble_eq_true rfl) dX6_judge_23 rfl rfl ?_
      refine J_istore_n X [(2, .int t3.1), (0, .ref (o.1 0)), (1, .int x1)] dX6_judge_26 rfl (Nat.le_of_ble_eq_true rfl) rfl ?_
      refine J_iload_n X 0 dX6_judge_27 rfl rfl ?_
      refine J_if_lt (tgt := 35) X dX6_judge_28 (by decide) (fun c28 => ?_) (fun c28 => ?_)
      · rw [if_pos c28] at hf
        refine J_iload_n X 0 dX6_judge_35 rfl rfl ?_
        refine J_goto (tgt := 43) X dX6_judge_36 (by decide) ?_
        cases hf
        exact J_iret X dX6_judge_43
      · rw [if_neg c28] at hf
        refine J_iload_n X 2 dX6_judge_31 rfl rfl ?_
        refine J_if_ne (tgt := 39) X dX6_judge_32 (by decide) (fun c32 => ?_) (fun c32 => ?_)
        · rw [if_neg c32] at hf
          refine J_aload_n X 1 dX6_judge_39 rfl rfl ?_
          refine J_get X hO.1 inX6 rfl 9 (Nat.le_of_ble_eq_true rfl) wd_600 rfl (v := .int (t3.2.1 0 9)) rfl dX6_judge_40 ?_
          cases hf
          exact J_iret X dX6_judge_43
        · rw [if_pos c32] at hf
          refine J_iload_n X 0 dX6_judge_35 rfl rfl ?_
          refine J_goto (tgt := 43) X dX6_judge_36 (by decide) ?_
          cases hf
          exact J_iret X dX6_judge_43
    · rw [if_neg c16] at hf
      refine J_bipush X (-5 : Int32) dX6_judge_19 (by decide) ?_
      cases hf
      exact J_iret X dX6_judge_21
  · rw [if_pos c6] at hf
    refine J_bipush X (-2 : Int32) dX6_judge_9 (by decide) ?_
    cases hf
    exact J_iret X dX6_judge_11
theorem hd_X6_barOfDays : yX6_barOfDays.cls ≠ "java/lang/invoke/MethodHandle" ∧ yX6_barOfDays.cls ≠ "java/lang/invoke/VarHandle" ∧ (parseMethodDescriptor yX6_barOfDays.desc).map (fun d => d.parameters.length) = some 0 := by decide +kernel
set_option maxHeartbeats 4000000 in
set_option maxRecDepth 100000 in
theorem c_X6_barOfDays (l : Launch) (o : Om) (emb : Hp → va_W) (A : Nat → Prop) (hA : ∀ h : Hp, va_D A (emb h)) (hO : isX6 o emb) (h : Hp) (r : Int32) (h' : Hp) (hf : f_X6_barOfDays h = some (r, h')) : Ct l o emb A yX6_barOfDays cX6_barOfDays 1 (some .int) 4 94 [.ref (o.1 0)] h (some (.int r)) h' := by
  refine Ct.of RX6 rfl (by decide +kernel) hA (Nat.le_of_ble_eq_true rfl) (fun p e s m args below meth c X => ?_)
  refine J_sub (lo' := [(0, .ref (o.1 0))]) [0] rfl ?_
  rw [f_X6_barOfDays] at hf
  refine J_aload_n X 0 dX6_barOfDays_0 rfl rfl ?_
  obtain ⟨v1, qv1, hf⟩ := ob hf
  refine J_callV X (rest := []) (rs := [.int v1]) (c_X6_faultOf l o emb A hA hO h v1 qv1) hO.1 rfl rfl wd_690 wd_692 wd_16 wd_41 wd_693 hd_X6_faultOf ⟨Nat.le_of_ble_eq_true rfl, Nat.le_of_ble_eq_true rfl⟩ ⟨Nat.zero_le _, Nat.zero_le _⟩ (Nat.le_of_ble_eq_true rfl) dX6_barOfDays_1 rfl rfl ?_
  refine J_if_ge (tgt := 14) X dX6_barOfDays_4 (by decide) (fun c4 => ?_) (fun c4 => ?_)
  · rw [if_pos c4] at hf
    refine J_bipush X (-5 : Int32) dX6_barOfDays_14 (by decide) ?_
    refine J_goto (tgt := 20) X dX6_barOfDays_16 (by decide) ?_
    cases hf
    exact J_iret X dX6_barOfDays_20
  · rw [if_neg c4] at hf
    refine J_aload_n X 0 dX6_barOfDays_7 rfl rfl ?_
    obtain ⟨t2, qt2, hf⟩ := ob hf
    refine J_callV X (rest := []) (rs := [.int t2.1]) (c_X6_goDays l o emb A hA hO h t2.1 t2.2 qt2) hO.1 rfl rfl wd_698 wd_700 wd_17 wd_41 wd_701 hd_X6_goDays ⟨Nat.le_of_ble_eq_true rfl, Nat.le_of_ble_eq_true rfl⟩ ⟨Nat.zero_le _, Nat.zero_le _⟩ (Nat.le_of_ble_eq_true rfl) dX6_barOfDays_8 rfl rfl ?_
    refine J_if_lt (tgt := 19) X dX6_barOfDays_11 (by decide) (fun c11 => ?_) (fun c11 => ?_)
    · rw [if_pos c11] at hf
      refine J_const X (0 : Int32) dX6_barOfDays_19 (by decide) ?_
      cases hf
      exact J_iret X dX6_barOfDays_20
    · rw [if_neg c11] at hf
      refine J_bipush X (-5 : Int32) dX6_barOfDays_14 (by decide) ?_
      refine J_goto (tgt := 20) X dX6_barOfDays_16 (by decide) ?_
      cases hf
      exact J_iret X dX6_barOfDays_20
theorem hd_X6_done : yX6_done.cls ≠ "java/lang/invoke/MethodHandle" ∧ yX6_done.cls ≠ "java/lang/invoke/VarHandle" ∧ (parseMethodDescriptor yX6_done.desc).map (fun d => d.parameters.length) = some 0 := by decide +kernel
set_option maxHeartbeats 4000000 in
set_option maxRecDepth 100000 in
theorem cf_X6_done_l12 {R : Type} (hA : ∀ h : Hp, va_D A (emb h)) (X : Cx p s m args meth c RX6 cX6_done 2 (some .int) o)  (hO : isX6 o emb)  {kx : Int32 → Hp → Option R} (t : R) : ∀ (n : Nat) (s1 : Int32) (h : Hp), f_X6_done_l12 kx n s1 h = some t → (∀ (s1 : Int32) (h : Hp), kx s1 h = some t → J p l e (rmf 5 114) s m args below meth c 0 0 Z o emb A H0 2 36 [(0, .ref (o.1 0))] [] h) → J p l e (rmf 5 114) s m args below meth c 0 0 Z o emb A H0 2 12 [(0, .ref (o.1 0)), (1, .int s1)] [] h := by
  intro n
  induction n with
  | zero =>
    intro s1 h hf hk
    cases hf
  | succ n ih =>
    intro s1 h hf hk
    rw [f_X6_done_l12] at hf
    refine J_iload_n X 1 dX6_done_12 rfl rfl ?_
    refine J_bipush X (89 : Int32) dX6_done_13 (by decide) ?_
    refine J_icmp_ge (tgt := 36) X dX6_done_15 (by decide) (fun c15 => ?_) (fun c15 => ?_)
    · rw [if_pos c15] at hf
      exact J_sub [0] rfl (hk s1 h hf)
    · rw [if_neg c15] at hf
      refine J_aload_n X 0 dX6_done_18 rfl rfl ?_
      refine J_get X hO.1 inX6 rfl 0 (Nat.le_of_ble_eq_true rfl) wd_591 rfl (v := .ref (o.1 1)) rfl dX6_done_19 ?_
      refine J_iload_n X 1 dX6_done_22 rfl rfl ?_
      refine J_aload_n X 0 dX6_done_23 rfl rfl ?_
      refine J_get X hO.1 inX6 rfl 1 (Nat.le_of_ble_eq_true rfl) wd_592 rfl (v := .ref (o.1 2)) rfl dX6_done_24 ?_
      refine J_iload_n X 1 dX6_done_27 rfl rfl ?_
      obtain ⟨v2, qv2, hf⟩ := ob hf
      refine J_iald X hO.2.2.1 (ald_s qv2).1 dX6_done_28 ?_
      refine J_topi v2 (ald_s qv2).2 ?_
      obtain ⟨h3, qh3, hf⟩ := ob hf
      refine J_iast X hO.2.1 (ast_s qh3).1 dX6_done_29 ?_
      refine J_hp h3 (ast_s qh3).2 ?_
      obtain ⟨v4, qv4, hf⟩ := ob hf
      refine J_iinc X 1 [(1, .int v4), (0, .ref (o.1 0))] dX6_done_30 rfl (Option.some.inj qv4) (Nat.le_of_ble_eq_true rfl) rfl ?_
      refine J_goto (tgt := 12) X dX6_done_33 (by decide) ?_
      exact J_sub [1, 0] rfl (ih v4 h3 hf hk)
set_option maxHeartbeats 4000000 in
set_option maxRecDepth 100000 in
theorem c_X6_done (l : Launch) (o : Om) (emb : Hp → va_W) (A : Nat → Prop) (hA : ∀ h : Hp, va_D A (emb h)) (hO : isX6 o emb) (h : Hp) (r : Int32) (h' : Hp) (hf : f_X6_done h = some (r, h')) : Ct l o emb A yX6_done cX6_done 2 (some .int) 5 114 [.ref (o.1 0)] h (some (.int r)) h' := by
  refine Ct.of RX6 rfl (by decide +kernel) hA (Nat.le_of_ble_eq_true rfl) (fun p e s m args below meth c X => ?_)
  refine J_sub (lo' := [(0, .ref (o.1 0))]) [0] rfl ?_
  rw [f_X6_done] at hf
  refine J_aload_n X 0 dX6_done_0 rfl rfl ?_
  obtain ⟨t1, qt1, hf⟩ := ob hf
  refine J_callV X (rest := []) (rs := [.int t1.1]) (c_X6_barOfDays l o emb A hA hO h t1.1 t1.2 qt1) hO.1 rfl rfl wd_741 wd_743 wd_26 wd_41 wd_744 hd_X6_barOfDays ⟨Nat.le_of_ble_eq_true rfl, Nat.le_of_ble_eq_true rfl⟩ ⟨Nat.zero_le _, Nat.zero_le _⟩ (Nat.le_of_ble_eq_true rfl) dX6_done_1 rfl rfl ?_
  refine J_if_ge (tgt := 10) X dX6_done_4 (by decide) (fun c4 => ?_) (fun c4 => ?_)
  · rw [if_pos c4] at hf
    refine J_const X (0 : Int32) dX6_done_10 (by decide) ?_
    refine J_istore_n X [(1, .int (0 : Int32)), (0, .ref (o.1 0))] dX6_done_11 rfl (Nat.le_of_ble_eq_true rfl) rfl ?_
    refine J_sub (lo' := [(0, .ref (o.1 0)), (1, .int (0 : Int32))]) [1, 0] rfl ?_
    refine cf_X6_done_l12 hA X  hO  _ _ (0 : Int32) t1.2 hf (fun w5 h6 hf => ?_)
    refine J_aload_n X 0 dX6_done_36 rfl rfl ?_
    refine J_const X (0 : Int32) dX6_done_37 (by decide) ?_
    obtain ⟨h7, qh7, hf⟩ := ob hf
    refine J_put X hO.1 inX6 tyX6 tyX6_ok nmX6 rfl 5 (Nat.le_of_ble_eq_true rfl) (by decide) wd_596 rfl rfl (ty := .int) (by decide +kernel) rfl rfl (Nat.le_of_ble_eq_true rfl) dX6_done_38 ?_
    refine J_hp h7 (Option.some.inj qh7) ?_
    refine J_aload_n X 0 dX6_done_41 rfl rfl ?_
    refine J_get X hO.1 inX6 rfl 10 (Nat.le_of_ble_eq_true rfl) wd_601 rfl (v := .int (h7.1 0 10)) rfl dX6_done_42 ?_
    cases hf
    exact J_iret X dX6_done_45
  · rw [if_neg c4] at hf
    refine J_bipush X (-5 : Int32) dX6_done_7 (by decide) ?_
    cases hf
    exact J_iret X dX6_done_9
theorem hd_X6_behind : yX6_behind.cls ≠ "java/lang/invoke/MethodHandle" ∧ yX6_behind.cls ≠ "java/lang/invoke/VarHandle" ∧ (parseMethodDescriptor yX6_behind.desc).map (fun d => d.parameters.length) = some 2 := by decide +kernel
set_option maxHeartbeats 4000000 in
set_option maxRecDepth 100000 in
theorem c_X6_behind (l : Launch) (o : Om) (emb : Hp → va_W) (A : Nat → Prop) (hA : ∀ h : Hp, va_D A (emb h)) (hO : isX6 o emb) (x1 : Int32) (x2 : Int32) (h : Hp) (r : Int32) (h' : Hp) (hf : f_X6_behind x1 x2 h = some (r, h')) : Ct l o emb A yX6_behind cX6_behind 3 (some .int) 5 114 [.ref (o.1 0), .int x1, .int x2] h (some (.int r)) h' := by
  refine Ct.of RX6 rfl (by decide +kernel) hA (Nat.le_of_ble_eq_true rfl) (fun p e s m args below meth c X => ?_)
  refine J_sub (lo' := [(0, .ref (o.1 0)), (1, .int x1), (2, .int x2)]) [0, 1, 2] rfl ?_
  rw [f_X6_behind] at hf
  refine J_iload_n X 1 dX6_behind_0 rfl rfl ?_
  obtain ⟨v1, qv1, hf⟩ := ob hf
  refine J_callS X (rest := []) (rs := [.int v1]) (c_X6_isPlace l o emb A hA x1 h v1 qv1) wd_657 wd_658 wd_41 wd_659 hd_X6_isPlace ⟨Nat.le_of_ble_eq_true rfl, Nat.le_of_ble_eq_true rfl⟩ ⟨Nat.zero_le _, Nat.zero_le _⟩ (Nat.le_of_ble_eq_true rfl) dX6_behind_1 rfl rfl ?_
  refine J_if_eq (tgt := 19) X dX6_behind_4 (by decide) (fun c4 => ?_) (fun c4 => ?_)
  · rw [if_pos c4] at hf
    refine J_const X (-1 : Int32) dX6_behind_19 (by decide) ?_
    cases hf
    exact J_iret X dX6_behind_20
  · rw [if_neg c4] at hf
    refine J_iload_n X 2 dX6_behind_7 rfl rfl ?_
    obtain ⟨v2, qv2, hf⟩ := ob hf
    refine J_callS X (rest := []) (rs := [.int v2]) (c_X6_isPlace l o emb A hA x2 h v2 qv2) wd_657 wd_658 wd_41 wd_659 hd_X6_isPlace ⟨Nat.le_of_ble_eq_true rfl, Nat.le_of_ble_eq_true rfl⟩ ⟨Nat.zero_le _, Nat.zero_le _⟩ (Nat.le_of_ble_eq_true rfl) dX6_behind_8 rfl rfl ?_
    refine J_if_eq (tgt := 19) X dX6_behind_11 (by decide) (fun c11 => ?_) (fun c11 => ?_)
    · rw [if_pos c11] at hf
      refine J_const X (-1 : Int32) dX6_behind_19 (by decide) ?_
      cases hf
      exact J_iret X dX6_behind_20
    · rw [if_neg c11] at hf
      refine J_iload_n X 1 dX6_behind_14 rfl rfl ?_
      refine J_iload_n X 2 dX6_behind_15 rfl rfl ?_
      refine J_icmp_ne (tgt := 21) X dX6_behind_16 (by decide) (fun c16 => ?_) (fun c16 => ?_)
      · rw [if_neg c16] at hf
        refine J_aload_n X 0 dX6_behind_21 rfl rfl ?_
        obtain ⟨t3, qt3, hf⟩ := ob hf
        refine J_callV X (rest := []) (rs := [.int t3.1]) (c_X6_barOfDays l o emb A hA hO h t3.1 t3.2 qt3) hO.1 rfl rfl wd_741 wd_743 wd_26 wd_41 wd_744 hd_X6_barOfDays ⟨Nat.le_of_ble_eq_true rfl, Nat.le_of_ble_eq_true rfl⟩ ⟨Nat.zero_le _, Nat.zero_le _⟩ (Nat.le_of_ble_eq_true rfl) dX6_behind_22 rfl rfl ?_
        refine J_if_ge (tgt := 33) X dX6_behind_25 (by decide) (fun c25 => ?_) (fun c25 => ?_)
        · rw [if_pos c25] at hf
          refine J_aload_n X 0 dX6_behind_33 rfl rfl ?_
          refine J_get X hO.1 inX6 rfl 1 (Nat.le_of_ble_eq_true rfl) wd_592 rfl (v := .ref (o.1 2)) rfl dX6_behind_34 ?_
          refine J_bipush X (9 : Int32) dX6_behind_37 (by decide) ?_
          refine J_iload_n X 1 dX6_behind_39 rfl rfl ?_
          refine J_imul X dX6_behind_40 ?_
          refine J_iload_n X 2 dX6_behind_41 rfl rfl ?_
          refine J_iadd X dX6_behind_42 ?_
          obtain ⟨v4, qv4, hf⟩ := ob hf
          refine J_iald X hO.2.2.1 (ald_s qv4).1 dX6_behind_43 ?_
          refine J_topi v4 (ald_s qv4).2 ?_
          cases hf
          exact J_iret X dX6_behind_44
        · rw [if_neg c25] at hf
          refine J_bipush X (-5 : Int32) dX6_behind_28 (by decide) ?_
          refine J_goto (tgt := 44) X dX6_behind_30 (by decide) ?_
          cases hf
          exact J_iret X dX6_behind_44
      · rw [if_pos c16] at hf
        refine J_const X (-1 : Int32) dX6_behind_19 (by decide) ?_
        cases hf
        exact J_iret X dX6_behind_20
theorem hd_X6_goes : yX6_goes.cls ≠ "java/lang/invoke/MethodHandle" ∧ yX6_goes.cls ≠ "java/lang/invoke/VarHandle" ∧ (parseMethodDescriptor yX6_goes.desc).map (fun d => d.parameters.length) = some 2 := by decide +kernel
set_option maxHeartbeats 4000000 in
set_option maxRecDepth 100000 in
theorem c_X6_goes (l : Launch) (o : Om) (emb : Hp → va_W) (A : Nat → Prop) (hA : ∀ h : Hp, va_D A (emb h)) (hO : isX6 o emb) (x1 : Int32) (x2 : Int32) (h : Hp) (r : Int32) (h' : Hp) (hf : f_X6_goes x1 x2 h = some (r, h')) : Ct l o emb A yX6_goes cX6_goes 3 (some .int) 5 114 [.ref (o.1 0), .int x1, .int x2] h (some (.int r)) h' := by
  refine Ct.of RX6 rfl (by decide +kernel) hA (Nat.le_of_ble_eq_true rfl) (fun p e s m args below meth c X => ?_)
  refine J_sub (lo' := [(0, .ref (o.1 0)), (1, .int x1), (2, .int x2)]) [0, 1, 2] rfl ?_
  rw [f_X6_goes] at hf
  refine J_aload_n X 0 dX6_goes_0 rfl rfl ?_
  refine J_iload_n X 1 dX6_goes_1 rfl rfl ?_
  obtain ⟨v1, qv1, hf⟩ := ob hf
  refine J_callV X (rest := []) (rs := [.int v1]) (c_X6_isThere l o emb A hA hO x1 h v1 qv1) hO.1 rfl rfl wd_726 wd_728 wd_24 wd_41 wd_729 hd_X6_isThere ⟨Nat.le_of_ble_eq_true rfl, Nat.le_of_ble_eq_true rfl⟩ ⟨Nat.zero_le _, Nat.zero_le _⟩ (Nat.le_of_ble_eq_true rfl) dX6_goes_2 rfl rfl ?_
  refine J_if_ne (tgt := 10) X dX6_goes_5 (by decide) (fun c5 => ?_) (fun c5 => ?_)
  · rw [if_neg c5] at hf
    refine J_iload_n X 2 dX6_goes_10 rfl rfl ?_
    refine J_const X (0 : Int32) dX6_goes_11 (by decide) ?_
    refine J_const X (1 : Int32) dX6_goes_12 (by decide) ?_
    obtain ⟨v2, qv2, hf⟩ := ob hf
    refine J_callS X (rest := []) (rs := [.int v2]) (c_X6_in l o emb A hA x2 (0 : Int32) (1 : Int32) h v2 qv2) wd_660 wd_661 wd_41 wd_662 hd_X6_in ⟨Nat.le_of_ble_eq_true rfl, Nat.le_of_ble_eq_true rfl⟩ ⟨Nat.zero_le _, Nat.zero_le _⟩ (Nat.le_of_ble_eq_true rfl) dX6_goes_13 rfl rfl ?_
    refine J_if_ne (tgt := 22) X dX6_goes_16 (by decide) (fun c16 => ?_) (fun c16 => ?_)
    · rw [if_neg c16] at hf
      refine J_aload_n X 0 dX6_goes_22 rfl rfl ?_
      obtain ⟨t3, qt3, hf⟩ := ob hf
      refine J_callV X (rest := []) (rs := [.int t3.1]) (c_X6_barOfDays l o emb A hA hO h t3.1 t3.2 qt3) hO.1 rfl rfl wd_741 wd_743 wd_26 wd_41 wd_744 hd_X6_barOfDays ⟨Nat.le_of_ble_eq_true rfl, Nat.le_of_ble_eq_true rfl⟩ ⟨Nat.zero_le _, Nat.zero_le _⟩ (Nat.le_of_ble_eq_true rfl) dX6_goes_23 rfl rfl ?_
      refine J_if_ge (tgt := 32) X dX6_goes_26 (by decide) (fun c26 => ?_) (fun c26 => ?_)
      · rw [if_pos c26] at hf
        refine J_iload_n X 2 dX6_goes_32 rfl rfl ?_
        refine J_if_ne (tgt := 48) X dX6_goes_33 (by decide) (fun c33 => ?_) (fun c33 => ?_)
        · rw [if_neg c33] at hf
          refine J_aload_n X 0 dX6_goes_48 rfl rfl ?_
          refine J_get X hO.1 inX6 rfl 1 (Nat.le_of_ble_eq_true rfl) wd_592 rfl (v := .ref (o.1 2)) rfl dX6_goes_49 ?_
          refine J_bipush X (87 : Int32) dX6_goes_52 (by decide) ?_
          obtain ⟨v4, qv4, hf⟩ := ob hf
          refine J_iald X hO.2.2.1 (ald_s qv4).1 dX6_goes_54 ?_
          refine J_topi v4 (ald_s qv4).2 ?_
          refine J_iload_n X 1 dX6_goes_55 rfl rfl ?_
          refine J_ishr X dX6_goes_56 ?_
          refine J_const X (1 : Int32) dX6_goes_57 (by decide) ?_
          refine J_iand X dX6_goes_58 ?_
          cases hf
          exact J_iret X dX6_goes_59
        · rw [if_pos c33] at hf
          refine J_aload_n X 0 dX6_goes_36 rfl rfl ?_
          refine J_get X hO.1 inX6 rfl 1 (Nat.le_of_ble_eq_true rfl) wd_592 rfl (v := .ref (o.1 2)) rfl dX6_goes_37 ?_
          refine J_bipush X (81 : Int32) dX6_goes_40 (by decide) ?_
          refine J_iload_n X 1 dX6_goes_42 rfl rfl ?_
          refine J_iadd X dX6_goes_43 ?_
          obtain ⟨v5, qv5, hf⟩ := ob hf
          refine J_iald X hO.2.2.1 (ald_s qv5).1 dX6_goes_44 ?_
          refine J_topi v5 (ald_s qv5).2 ?_
          refine J_goto (tgt := 59) X dX6_goes_45 (by decide) ?_
          cases hf
          exact J_iret X dX6_goes_59
      · rw [if_neg c26] at hf
        refine J_bipush X (-5 : Int32) dX6_goes_29 (by decide) ?_
        cases hf
        exact J_iret X dX6_goes_31
    · rw [if_pos c16] at hf
      refine J_bipush X (-2 : Int32) dX6_goes_19 (by decide) ?_
      cases hf
      exact J_iret X dX6_goes_21
  · rw [if_pos c5] at hf
    refine J_const X (-1 : Int32) dX6_goes_8 (by decide) ?_
    cases hf
    exact J_iret X dX6_goes_9
theorem hd_X6_then : yX6_then.cls ≠ "java/lang/invoke/MethodHandle" ∧ yX6_then.cls ≠ "java/lang/invoke/VarHandle" ∧ (parseMethodDescriptor yX6_then.desc).map (fun d => d.parameters.length) = some 1 := by decide +kernel
set_option maxHeartbeats 4000000 in
set_option maxRecDepth 100000 in
theorem c_X6_then (l : Launch) (o : Om) (emb : Hp → va_W) (A : Nat → Prop) (hA : ∀ h : Hp, va_D A (emb h)) (hO : isX6 o emb) (x1 : Int32) (h : Hp) (r : Int32) (h' : Hp) (hf : f_X6_then x1 h = some (r, h')) : Ct l o emb A yX6_then cX6_then 2 (some .int) 5 114 [.ref (o.1 0), .int x1] h (some (.int r)) h' := by
  refine Ct.of RX6 rfl (by decide +kernel) hA (Nat.le_of_ble_eq_true rfl) (fun p e s m args below meth c X => ?_)
  refine J_sub (lo' := [(0, .ref (o.1 0)), (1, .int x1)]) [0, 1] rfl ?_
  rw [f_X6_then] at hf
  refine J_iload_n X 1 dX6_then_0 rfl rfl ?_
  refine J_const X (0 : Int32) dX6_then_1 (by decide) ?_
  refine J_const X (5 : Int32) dX6_then_2 (by decide) ?_
  obtain ⟨v1, qv1, hf⟩ := ob hf
  refine J_callS X (rest := []) (rs := [.int v1]) (c_X6_in l o emb A hA x1 (0 : Int32) (5 : Int32) h v1 qv1) wd_660 wd_661 wd_41 wd_662 hd_X6_in ⟨Nat.le_of_ble_eq_true rfl, Nat.le_of_ble_eq_true rfl⟩ ⟨Nat.zero_le _, Nat.zero_le _⟩ (Nat.le_of_ble_eq_true rfl) dX6_then_3 rfl rfl ?_
  refine J_if_ne (tgt := 12) X dX6_then_6 (by decide) (fun c6 => ?_) (fun c6 => ?_)
  · rw [if_neg c6] at hf
    refine J_aload_n X 0 dX6_then_12 rfl rfl ?_
    obtain ⟨t2, qt2, hf⟩ := ob hf
    refine J_callV X (rest := []) (rs := [.int t2.1]) (c_X6_barOfDays l o emb A hA hO h t2.1 t2.2 qt2) hO.1 rfl rfl wd_741 wd_743 wd_26 wd_41 wd_744 hd_X6_barOfDays ⟨Nat.le_of_ble_eq_true rfl, Nat.le_of_ble_eq_true rfl⟩ ⟨Nat.zero_le _, Nat.zero_le _⟩ (Nat.le_of_ble_eq_true rfl) dX6_then_13 rfl rfl ?_
    refine J_if_ge (tgt := 22) X dX6_then_16 (by decide) (fun c16 => ?_) (fun c16 => ?_)
    · rw [if_pos c16] at hf
      refine J_iload_n X 1 dX6_then_22 rfl rfl ?_
      by_cases c23_0 : x1 = (0 : Int32)
      · rw [if_pos c23_0] at hf
        refine J_topi (0 : Int32) c23_0 ?_
        refine J_tableIn (tgt := 52) X dX6_then_23 (by decide) (by decide) rfl (by decide) ?_
        refine J_aload_n X 0 dX6_then_52 rfl rfl ?_
        obtain ⟨v6, qv6, hf⟩ := ob hf
        refine J_callV X (rest := []) (rs := [.int v6]) (c_X6_roadsOf l o emb A hA hO t2.2 v6 qv6) hO.1 rfl rfl wd_667 wd_669 wd_15 wd_41 wd_670 hd_X6_roadsOf ⟨Nat.le_of_ble_eq_true rfl, Nat.le_of_ble_eq_true rfl⟩ ⟨Nat.zero_le _, Nat.zero_le _⟩ (Nat.le_of_ble_eq_true rfl) dX6_then_53 rfl rfl ?_
        cases hf
        exact J_iret X dX6_then_56
      · rw [if_neg c23_0] at hf
        by_cases c23_1 : x1 = (1 : Int32)
        · rw [if_pos c23_1] at hf
          refine J_topi (1 : Int32) c23_1 ?_
          refine J_tableIn (tgt := 57) X dX6_then_23 (by decide) (by decide) rfl (by decide) ?_
          refine J_aload_n X 0 dX6_then_57 rfl rfl ?_
          obtain ⟨v5, qv5, hf⟩ := ob hf
          refine J_callV X (rest := []) (rs := [.int v5]) (c_X6_wearOf l o emb A hA hO t2.2 v5 qv5) hO.1 rfl rfl wd_757 wd_759 wd_27 wd_41 wd_760 hd_X6_wearOf ⟨Nat.le_of_ble_eq_true rfl, Nat.le_of_ble_eq_true rfl⟩ ⟨Nat.zero_le _, Nat.zero_le _⟩ (Nat.le_of_ble_eq_true rfl) dX6_then_58 rfl rfl ?_
          cases hf
          exact J_iret X dX6_then_61
        · rw [if_neg c23_1] at hf
          by_cases c23_2 : x1 = (2 : Int32)
          · rw [if_pos c23_2] at hf
            refine J_topi (2 : Int32) c23_2 ?_
            refine J_tableIn (tgt := 62) X dX6_then_23 (by decide) (by decide) rfl (by decide) ?_
            refine J_aload_n X 0 dX6_then_62 rfl rfl ?_
            obtain ⟨v4, qv4, hf⟩ := ob hf
            refine J_callV X (rest := []) (rs := [.int v4]) (c_X6_shutIn l o emb A hA hO t2.2 v4 qv4) hO.1 rfl rfl wd_761 wd_763 wd_28 wd_41 wd_764 hd_X6_shutIn ⟨Nat.le_of_ble_eq_true rfl, Nat.le_of_ble_eq_true rfl⟩ ⟨Nat.zero_le _, Nat.zero_le _⟩ (Nat.le_of_ble_eq_true rfl) dX6_then_63 rfl rfl ?_
            cases hf
            exact J_iret X dX6_then_66
          · rw [if_neg c23_2] at hf
            by_cases c23_3 : x1 = (3 : Int32)
            · rw [if_pos c23_3] at hf
              refine J_topi (3 : Int32) c23_3 ?_
              refine J_tableIn (tgt := 67) X dX6_then_23 (by decide) (by decide) rfl (by decide) ?_
              refine J_aload_n X 0 dX6_then_67 rfl rfl ?_
              refine J_get X hO.1 inX6 rfl 1 (Nat.le_of_ble_eq_true rfl) wd_592 rfl (v := .ref (o.1 2)) rfl dX6_then_68 ?_
              refine J_bipush X (88 : Int32) dX6_then_71 (by decide) ?_
              obtain ⟨v3, qv3, hf⟩ := ob hf
              refine J_iald X hO.2.2.1 (ald_s qv3).1 dX6_then_73 ?_
              refine J_topi v3 (ald_s qv3).2 ?_
              cases hf
              exact J_iret X dX6_then_74
            · rw [if_neg c23_3] at hf
              refine J_tableOut (tgt := 75) X dX6_then_23 (sw_out4_0 c23_0 c23_1 c23_2 c23_3) (by decide) ?_
              refine J_iload_n X 1 dX6_then_75 rfl rfl ?_
              refine J_const X (4 : Int32) dX6_then_76 (by decide) ?_
              refine J_icmp_ne (tgt := 87) X dX6_then_77 (by decide) (fun c77 => ?_) (fun c77 => ?_)
              · rw [if_neg c77] at hf
                refine J_aload_n X 0 dX6_then_87 rfl rfl ?_
                refine J_get X hO.1 inX6 rfl 8 (Nat.le_of_ble_eq_true rfl) wd_599 rfl (v := .int (t2.2.1 0 8)) rfl dX6_then_88 ?_
                cases hf
                exact J_iret X dX6_then_91
              · rw [if_pos c77] at hf
                refine J_aload_n X 0 dX6_then_80 rfl rfl ?_
                refine J_get X hO.1 inX6 rfl 7 (Nat.le_of_ble_eq_true rfl) wd_598 rfl (v := .int (t2.2.1 0 7)) rfl dX6_then_81 ?_
                refine J_goto (tgt := 91) X dX6_then_84 (by decide) ?_
                cases hf
                exact J_iret X dX6_then_91
    · rw [if_neg c16] at hf
      refine J_bipush X (-5 : Int32) dX6_then_19 (by decide) ?_
      cases hf
      exact J_iret X dX6_then_21
  · rw [if_pos c6] at hf
    refine J_bipush X (-2 : Int32) dX6_then_9 (by decide) ?_
    cases hf
    exact J_iret X dX6_then_11
theorem hd_X6_way : yX6_way.cls ≠ "java/lang/invoke/MethodHandle" ∧ yX6_way.cls ≠ "java/lang/invoke/VarHandle" ∧ (parseMethodDescriptor yX6_way.desc).map (fun d => d.parameters.length) = some 3 := by decide +kernel
set_option maxHeartbeats 4000000 in
set_option maxRecDepth 100000 in
theorem cf_X6_way_l35 {R : Type} (hA : ∀ h : Hp, va_D A (emb h)) (X : Cx p s m args meth c RX6 cX6_way 8 (some .int) o)  (hO : isX6 o emb) (s1 : Int32) (s2 : Int32) (s3 : Int32) {kx : Int32 → Hp → Option R} (t : R) : ∀ (n : Nat) (s4 : Int32) (h : Hp), f_X6_way_l35 s1 s2 s3 kx n s4 h = some t → (∀ (s4 : Int32) (h : Hp), kx s4 h = some t → J p l e (rmf 2 44) s m args below meth c 0 0 Z o emb A H0 8 67 [(0, .ref (o.1 0)), (2, .int s2), (3, .int s3)] [] h) → J p l e (rmf 2 44) s m args below meth c 0 0 Z o emb A H0 8 35 [(0, .ref (o.1 0)), (1, .int s1), (2, .int s2), (3, .int s3), (4, .int s4)] [] h := by
  intro n
  induction n with
  | zero =>
    intro s4 h hf hk
    cases hf
  | succ n ih =>
    intro s4 h hf hk
    rw [f_X6_way_l35] at hf
    refine J_iload X 4 dX6_way_35 rfl ?_
    refine J_bipush X (9 : Int32) dX6_way_37 (by decide) ?_
    refine J_icmp_ge (tgt := 67) X dX6_way_39 (by decide) (fun c39 => ?_) (fun c39 => ?_)
    · rw [if_pos c39] at hf
      exact J_sub [0, 2, 3] rfl (hk s4 h hf)
    · rw [if_neg c39] at hf
      refine J_aload_n X 0 dX6_way_42 rfl rfl ?_
      refine J_get X hO.1 inX6 rfl 11 (Nat.le_of_ble_eq_true rfl) wd_602 rfl (v := .ref (o.1 5)) rfl dX6_way_43 ?_
      refine J_iload X 4 dX6_way_46 rfl ?_
      refine J_iload X 4 dX6_way_48 rfl ?_
      refine J_iload_n X 1 dX6_way_50 rfl rfl ?_
      obtain ⟨t6, qt6, hf⟩ := ob hf
      have yk5 : J p l e (rmf 2 44) s m args below meth c 0 0 Z o emb A H0 8 60 [(0, .ref (o.1 0)), (1, .int s1), (2, .int s2), (3, .int s3), (4, .int s4)] [.int t6, .int s4, .ref (o.1 5)] h := by
        obtain ⟨h7, qh7, hf⟩ := ob hf
        refine J_iast X hO.2.2.2.2.2.1 (ast_s qh7).1 dX6_way_60 ?_
        refine J_hp h7 (ast_s qh7).2 ?_
        obtain ⟨v8, qv8, hf⟩ := ob hf
        refine J_iinc X 4 [(4, .int v8), (0, .ref (o.1 0)), (1, .int s1), (2, .int s2), (3, .int s3)] dX6_way_61 rfl (Option.some.inj qv8) (Nat.le_of_ble_eq_true rfl) rfl ?_
        refine J_goto (tgt := 35) X dX6_way_64 (by decide) ?_
        exact J_sub [1, 2, 3, 4, 0] rfl (ih v8 h7 hf hk)
      clear hf
      have hf := qt6
      clear qt6
      refine J_icmp_ne (tgt := 58) X dX6_way_51 (by decide) (fun c51 => ?_) (fun c51 => ?_)
      · rw [if_neg c51] at hf
        refine J_ldc X wd_777 dX6_way_58 ?_
        cases hf
        exact J_sub [0, 1, 2, 3, 4] rfl yk5
      · rw [if_pos c51] at hf
        refine J_const X (0 : Int32) dX6_way_54 (by decide) ?_
        refine J_goto (tgt := 60) X dX6_way_55 (by decide) ?_
        cases hf
        exact J_sub [0, 1, 2, 3, 4] rfl yk5
set_option maxHeartbeats 4000000 in
set_option maxRecDepth 100000 in
theorem cf_X6_way_l90 {R : Type} (hA : ∀ h : Hp, va_D A (emb h)) (X : Cx p s m args meth c RX6 cX6_way 8 (some .int) o)  (hO : isX6 o emb) (s2 : Int32) (s3 : Int32) (s4 : Int32) (s5 : Int32) {kx : Int32 → Hp → Option R} (t : R) : ∀ (n : Nat) (s6 : Int32) (h : Hp), f_X6_way_l90 s2 s3 s4 s5 kx n s6 h = some t → (∀ (s6 : Int32) (h : Hp), kx s6 h = some t → J p l e (rmf 2 44) s m args below meth c 0 0 Z o emb A H0 8 181 [(0, .ref (o.1 0)), (2, .int s2), (3, .int s3), (4, .int s4), (5, .int s5)] [] h) → J p l e (rmf 2 44) s m args below meth c 0 0 Z o emb A H0 8 90 [(0, .ref (o.1 0)), (2, .int s2), (3, .int s3), (4, .int s4), (5, .int s5), (6, .int s6)] [] h := by
  intro n
  induction n with
  | zero =>
    intro s6 h hf hk
    cases hf
  | succ n ih =>
    intro s6 h hf hk
    rw [f_X6_way_l90] at hf
    refine J_iload X 5 dX6_way_90 rfl ?_
    refine J_bipush X (9 : Int32) dX6_way_92 (by decide) ?_
    refine J_icmp_ge (tgt := 181) X dX6_way_94 (by decide) (fun c94 => ?_) (fun c94 => ?_)
    · rw [if_pos c94] at hf
      exact J_sub [0, 1, 2, 3, 4] rfl (hk s6 h hf)
    · rw [if_neg c94] at hf
      refine J_aload_n X 0 dX6_way_97 rfl rfl ?_
      refine J_iload X 4 dX6_way_98 rfl ?_
      refine J_iload X 5 dX6_way_100 rfl ?_
      obtain ⟨v11, qv11, hf⟩ := ob hf
      refine J_callV X (rest := []) (rs := [.int v11]) (c_X6_isOpen l o emb A hA hO s5 s6 h v11 qv11) hO.1 rfl rfl wd_769 wd_771 wd_30 wd_41 wd_772 hd_X6_isOpen ⟨Nat.le_of_ble_eq_true rfl, Nat.le_of_ble_eq_true rfl⟩ ⟨Nat.zero_le _, Nat.zero_le _⟩ (Nat.le_of_ble_eq_true rfl) dX6_way_102 rfl rfl ?_
      obtain ⟨t13, qt13, hf⟩ := ob hf
      have yk12 : J p l e (rmf 2 44) s m args below meth c 0 0 Z o emb A H0 8 142 [(0, .ref (o.1 0)), (2, .int s2), (3, .int s3), (4, .int s4), (5, .int s5), (6, .int s6)] [.int t13] h := by
        refine J_istore X [(7, .int t13), (0, .ref (o.1 0)), (2, .int s2), (3, .int s3), (4, .int s4), (5, .int s5), (6, .int s6)] dX6_way_142 (Nat.le_of_ble_eq_true rfl) rfl ?_
        refine J_aload_n X 1 dX6_way_144 rfl rfl ?_
        refine J_get X hO.1 inX6 rfl 11 (Nat.le_of_ble_eq_true rfl) wd_602 rfl (v := .ref (o.1 5)) rfl dX6_way_145 ?_
        refine J_iload X 6 dX6_way_148 rfl ?_
        refine J_iload X 0 dX6_way_150 rfl ?_
        refine J_aload_n X 1 dX6_way_152 rfl rfl ?_
        refine J_get X hO.1 inX6 rfl 11 (Nat.le_of_ble_eq_true rfl) wd_602 rfl (v := .ref (o.1 5)) rfl dX6_way_153 ?_
        refine J_iload X 6 dX6_way_156 rfl ?_
        obtain ⟨v14, qv14, hf⟩ := ob hf
        refine J_iald X hO.2.2.2.2.2.1 (ald_s qv14).1 dX6_way_158 ?_
        refine J_topi v14 (ald_s qv14).2 ?_
        obtain ⟨t16, qt16, hf⟩ := ob hf
        have yk15 : J p l e (rmf 2 44) s m args below meth c 0 0 Z o emb A H0 8 174 [(0, .ref (o.1 0)), (2, .int s2), (3, .int s3), (4, .int s4), (5, .int s5), (6, .int s6)] [.int t16, .int s6, .ref (o.1 5)] h := by
          obtain ⟨h17, qh17, hf⟩ := ob hf
          refine J_iast X hO.2.2.2.2.2.1 (ast_s qh17).1 dX6_way_174 ?_
          refine J_hp h17 (ast_s qh17).2 ?_
          obtain ⟨v18, qv18, hf⟩ := ob hf
          refine J_iinc X 5 [(6, .int v18), (0, .ref (o.1 0)), (2, .int s2), (3, .int s3), (4, .int s4), (5, .int s5)] dX6_way_175 rfl (Option.some.inj qv18) (Nat.le_of_ble_eq_true rfl) rfl ?_
          refine J_goto (tgt := 90) X dX6_way_178 (by decide) ?_
          exact J_sub [1, 2, 3, 4, 5, 0] rfl (ih v18 h17 hf hk)
        clear hf
        have hf := qt16
        clear qt16
        refine J_icmp_ge (tgt := 167) X dX6_way_159 (by decide) (fun c159 => ?_) (fun c159 => ?_)
        · rw [if_pos c159] at hf
          refine J_aload_n X 1 dX6_way_167 rfl rfl ?_
          refine J_get X hO.1 inX6 rfl 11 (Nat.le_of_ble_eq_true rfl) wd_602 rfl (v := .ref (o.1 5)) rfl dX6_way_168 ?_
          refine J_iload X 6 dX6_way_171 rfl ?_
          obtain ⟨v19, qv19, hf⟩ := ob hf
          refine J_iald X hO.2.2.2.2.2.1 (ald_s qv19).1 dX6_way_173 ?_
          refine J_topi v19 (ald_s qv19).2 ?_
          cases hf
          exact J_sub [1, 2, 3, 4, 5, 6] rfl yk15
        · rw [if_neg c159] at hf
          refine J_iload X 0 dX6_way_162 rfl ?_
          refine J_goto (tgt := 174) X dX6_way_164 (by decide) ?_
          cases hf
          exact J_sub [1, 2, 3, 4, 5, 6] rfl yk15
      clear hf
      have hf := qt13
      clear qt13
      refine J_if_eq (tgt := 140) X dX6_way_105 (by decide) (fun c105 => ?_) (fun c105 => ?_)
      · rw [if_pos c105] at hf
        refine J_ldc X wd_777 dX6_way_140 ?_
        cases hf
        exact J_sub [0, 1, 2, 3, 4, 5] rfl yk12
      · rw [if_neg c105] at hf
        refine J_aload_n X 0 dX6_way_108 rfl rfl ?_
        refine J_get X hO.1 inX6 rfl 11 (Nat.le_of_ble_eq_true rfl) wd_602 rfl (v := .ref (o.1 5)) rfl dX6_way_109 ?_
        refine J_iload X 4 dX6_way_112 rfl ?_
        obtain ⟨v20, qv20, hf⟩ := ob hf
        refine J_iald X hO.2.2.2.2.2.1 (ald_s qv20).1 dX6_way_114 ?_
        refine J_topi v20 (ald_s qv20).2 ?_
        refine J_iload_n X 2 dX6_way_115 rfl rfl ?_
        refine J_if_ne (tgt := 123) X dX6_way_116 (by decide) (fun c116 => ?_) (fun c116 => ?_)
        · rw [if_neg c116] at hf
          refine J_aload_n X 0 dX6_way_123 rfl rfl ?_
          refine J_get X hO.1 inX6 rfl 1 (Nat.le_of_ble_eq_true rfl) wd_592 rfl (v := .ref (o.1 2)) rfl dX6_way_124 ?_
          refine J_bipush X (9 : Int32) dX6_way_127 (by decide) ?_
          refine J_iload X 4 dX6_way_129 rfl ?_
          refine J_imul X dX6_way_131 ?_
          refine J_iload X 5 dX6_way_132 rfl ?_
          refine J_iadd X dX6_way_134 ?_
          obtain ⟨v21, qv21, hf⟩ := ob hf
          refine J_iald X hO.2.2.1 (ald_s qv21).1 dX6_way_135 ?_
          refine J_topi v21 (ald_s qv21).2 ?_
          refine J_iadd X dX6_way_136 ?_
          refine J_goto (tgt := 142) X dX6_way_137 (by decide) ?_
          cases hf
          exact J_sub [0, 1, 2, 3, 4, 5] rfl yk12
        · rw [if_pos c116] at hf
          refine J_const X (1 : Int32) dX6_way_119 (by decide) ?_
          refine J_goto (tgt := 136) X dX6_way_120 (by decide) ?_
          refine J_iadd X dX6_way_136 ?_
          refine J_goto (tgt := 142) X dX6_way_137 (by decide) ?_
          cases hf
          exact J_sub [0, 1, 2, 3, 4, 5] rfl yk12
set_option maxHeartbeats 4000000 in
set_option maxRecDepth 100000 in
theorem cf_X6_way_l80 {R : Type} (hA : ∀ h : Hp, va_D A (emb h)) (X : Cx p s m args meth c RX6 cX6_way 8 (some .int) o)  (hO : isX6 o emb) (s2 : Int32) (s3 : Int32) (s4 : Int32) {kx : Int32 → Hp → Option R} (t : R) : ∀ (n : Nat) (s5 : Int32) (h : Hp), f_X6_way_l80 s2 s3 s4 kx n s5 h = some t → (∀ (s5 : Int32) (h : Hp), kx s5 h = some t → J p l e (rmf 2 44) s m args below meth c 0 0 Z o emb A H0 8 187 [(0, .ref (o.1 0)), (2, .int s2), (3, .int s3), (4, .int s4)] [] h) → J p l e (rmf 2 44) s m args below meth c 0 0 Z o emb A H0 8 80 [(0, .ref (o.1 0)), (2, .int s2), (3, .int s3), (4, .int s4), (5, .int s5)] [] h := by
  intro n
  induction n with
  | zero =>
    intro s5 h hf hk
    cases hf
  | succ n ih =>
    intro s5 h hf hk
    rw [f_X6_way_l80] at hf
    refine J_iload X 4 dX6_way_80 rfl ?_
    refine J_bipush X (9 : Int32) dX6_way_82 (by decide) ?_
    refine J_icmp_ge (tgt := 187) X dX6_way_84 (by decide) (fun c84 => ?_) (fun c84 => ?_)
    · rw [if_pos c84] at hf
      exact J_sub [0, 1, 2, 3] rfl (hk s5 h hf)
    · rw [if_neg c84] at hf
      refine J_const X (0 : Int32) dX6_way_87 (by decide) ?_
      refine J_istore X [(6, .int (0 : Int32)), (0, .ref (o.1 0)), (2, .int s2), (3, .int s3), (4, .int s4), (5, .int s5)] dX6_way_88 (Nat.le_of_ble_eq_true rfl) rfl ?_
      refine J_sub (lo' := [(0, .ref (o.1 0)), (2, .int s2), (3, .int s3), (4, .int s4), (5, .int s5), (6, .int (0 : Int32))]) [1, 2, 3, 4, 5, 0] rfl ?_
      refine cf_X6_way_l90 hA X  hO s2 s3 s4 s5 _ _ (0 : Int32) h hf (fun w22 h23 hf => ?_)
      obtain ⟨v24, qv24, hf⟩ := ob hf
      refine J_iinc X 4 [(5, .int v24), (0, .ref (o.1 0)), (2, .int s2), (3, .int s3), (4, .int s4)] dX6_way_181 rfl (Option.some.inj qv24) (Nat.le_of_ble_eq_true rfl) rfl ?_
      refine J_goto (tgt := 80) X dX6_way_184 (by decide) ?_
      exact J_sub [1, 2, 3, 4, 0] rfl (ih v24 h23 hf hk)
set_option maxHeartbeats 4000000 in
set_option maxRecDepth 100000 in
theorem cf_X6_way_l70 {R : Type} (hA : ∀ h : Hp, va_D A (emb h)) (X : Cx p s m args meth c RX6 cX6_way 8 (some .int) o)  (hO : isX6 o emb) (s2 : Int32) (s3 : Int32) {kx : Int32 → Hp → Option R} (t : R) : ∀ (n : Nat) (s4 : Int32) (h : Hp), f_X6_way_l70 s2 s3 kx n s4 h = some t → (∀ (s4 : Int32) (h : Hp), kx s4 h = some t → J p l e (rmf 2 44) s m args below meth c 0 0 Z o emb A H0 8 193 [(0, .ref (o.1 0)), (2, .int s2)] [] h) → J p l e (rmf 2 44) s m args below meth c 0 0 Z o emb A H0 8 70 [(0, .ref (o.1 0)), (2, .int s2), (3, .int s3), (4, .int s4)] [] h := by
  intro n
  induction n with
  | zero =>
    intro s4 h hf hk
    cases hf
  | succ n ih =>
    intro s4 h hf hk
    rw [f_X6_way_l70] at hf
    refine J_iload X 3 dX6_way_70 rfl ?_
    refine J_bipush X (9 : Int32) dX6_way_72 (by decide) ?_
    refine J_icmp_ge (tgt := 193) X dX6_way_74 (by decide) (fun c74 => ?_) (fun c74 => ?_)
    · rw [if_pos c74] at hf
      exact J_sub [0, 1] rfl (hk s4 h hf)
    · rw [if_neg c74] at hf
      refine J_const X (0 : Int32) dX6_way_77 (by decide) ?_
      refine J_istore X [(5, .int (0 : Int32)), (0, .ref (o.1 0)), (2, .int s2), (3, .int s3), (4, .int s4)] dX6_way_78 (Nat.le_of_ble_eq_true rfl) rfl ?_
      refine J_sub (lo' := [(0, .ref (o.1 0)), (2, .int s2), (3, .int s3), (4, .int s4), (5, .int (0 : Int32))]) [1, 2, 3, 4, 0] rfl ?_
      refine cf_X6_way_l80 hA X  hO s2 s3 s4 _ _ (0 : Int32) h hf (fun w25 h26 hf => ?_)
      obtain ⟨v27, qv27, hf⟩ := ob hf
      refine J_iinc X 3 [(4, .int v27), (0, .ref (o.1 0)), (2, .int s2), (3, .int s3)] dX6_way_187 rfl (Option.some.inj qv27) (Nat.le_of_ble_eq_true rfl) rfl ?_
      refine J_goto (tgt := 70) X dX6_way_190 (by decide) ?_
      exact J_sub [1, 2, 3, 0] rfl (ih v27 h26 hf hk)
set_option maxHeartbeats 4000000 in
set_option maxRecDepth 100000 in
theorem c_X6_way (l : Launch) (o : Om) (emb : Hp → va_W) (A : Nat → Prop) (hA : ∀ h : Hp, va_D A (emb h)) (hO : isX6 o emb) (x1 : Int32) (x2 : Int32) (x3 : Int32) (h : Hp) (r : Int32) (h' : Hp) (hf : f_X6_way x1 x2 x3 h = some (r, h')) : Ct l o emb A yX6_way cX6_way 8 (some .int) 2 44 [.ref (o.1 0), .int x1, .int x2, .int x3] h (some (.int r)) h' := by
  refine Ct.of RX6 rfl (by decide +kernel) hA (Nat.le_of_ble_eq_true rfl) (fun p e s m args below meth c X => ?_)
  refine J_sub (lo' := [(0, .ref (o.1 0)), (1, .int x1), (2, .int x2), (3, .int x3)]) [0, 1, 2, 3] rfl ?_
  rw [f_X6_way] at hf
  refine J_iload_n X 1 dX6_way_0 rfl rfl ?_
  obtain ⟨v1, qv1, hf⟩ := ob hf
  refine J_callS X (rest := []) (rs := [.int v1]) (c_X6_isPlace l o emb A hA x1 h v1 qv1) wd_657 wd_658 wd_41 wd_659 hd_X6_isPlace ⟨Nat.le_of_ble_eq_true rfl, Nat.le_of_ble_eq_true rfl⟩ ⟨Nat.zero_le _, Nat.zero_le _⟩ (Nat.le_of_ble_eq_true rfl) dX6_way_1 rfl rfl ?_
  refine J_if_eq (tgt := 14) X dX6_way_4 (by decide) (fun c4 => ?_) (fun c4 => ?_)
  · rw [if_pos c4] at hf
    refine J_const X (-1 : Int32) dX6_way_14 (by decide) ?_
    cases hf
    exact J_iret X dX6_way_15
  · rw [if_neg c4] at hf
    refine J_iload_n X 2 dX6_way_7 rfl rfl ?_
    obtain ⟨v2, qv2, hf⟩ := ob hf
    refine J_callS X (rest := []) (rs := [.int v2]) (c_X6_isPlace l o emb A hA x2 h v2 qv2) wd_657 wd_658 wd_41 wd_659 hd_X6_isPlace ⟨Nat.le_of_ble_eq_true rfl, Nat.le_of_ble_eq_true rfl⟩ ⟨Nat.zero_le _, Nat.zero_le _⟩ (Nat.le_of_ble_eq_true rfl) dX6_way_8 rfl rfl ?_
    refine J_if_ne (tgt := 16) X dX6_way_11 (by decide) (fun c11 => ?_) (fun c11 => ?_)
    · rw [if_neg c11] at hf
      refine J_iload_n X 3 dX6_way_16 rfl rfl ?_
      refine J_const X (0 : Int32) dX6_way_17 (by decide) ?_
      refine J_const X (1 : Int32) dX6_way_18 (by decide) ?_
      obtain ⟨v3, qv3, hf⟩ := ob hf
      refine J_callS X (rest := []) (rs := [.int v3]) (c_X6_in l o emb A hA x3 (0 : Int32) (1 : Int32) h v3 qv3) wd_660 wd_661 wd_41 wd_662 hd_X6_in ⟨Nat.le_of_ble_eq_true rfl, Nat.le_of_ble_eq_true rfl⟩ ⟨Nat.zero_le _, Nat.zero_le _⟩ (Nat.le_of_ble_eq_true rfl) dX6_way_19 rfl rfl ?_
      refine J_if_ne (tgt := 28) X dX6_way_22 (by decide) (fun c22 => ?_) (fun c22 => ?_)
      · rw [if_neg c22] at hf
        refine J_aload_n X 0 dX6_way_28 rfl rfl ?_
        obtain ⟨h4, qh4, hf⟩ := ob hf
        refine J_callV X (rest := []) (rs := []) (c_X6_asNow l o emb A hA hO h h4 qh4) hO.1 rfl rfl wd_663 wd_665 wd_14 wd_41 wd_666 hd_X6_asNow ⟨Nat.le_of_ble_eq_true rfl, Nat.le_of_ble_eq_true rfl⟩ ⟨Nat.zero_le _, Nat.zero_le _⟩ (Nat.le_of_ble_eq_true rfl) dX6_way_29 rfl rfl ?_
        refine J_const X (0 : Int32) dX6_way_32 (by decide) ?_
        refine J_istore X [(4, .int (0 : Int32)), (0, .ref (o.1 0)), (1, .int x1), (2, .int x2), (3, .int x3)] dX6_way_33 (Nat.le_of_ble_eq_true rfl) rfl ?_
        refine J_sub (lo' := [(0, .ref (o.1 0)), (1, .int x1), (2, .int x2), (3, .int x3), (4, .int (0 : Int32))]) [1, 2, 3, 4, 0] rfl ?_
        refine cf_X6_way_l35 hA X  hO x1 x2 x3 _ _ (0 : Int32) h4 hf (fun w9 h10 hf => ?_)
        refine J_const X (0 : Int32) dX6_way_67 (by decide) ?_
        refine J_istore X [(4, .int (0 : Int32)), (0, .ref (o.1 0)), (2, .int x2), (3, .int x3)] dX6_way_68 (Nat.le_of_ble_eq_true rfl) rfl ?_
        refine J_sub (lo' := [(0, .ref (o.1 0)), (2, .int x2), (3, .int x3), (4, .int (0 : Int32))]) [1, 2, 3, 0] rfl ?_
        refine cf_X6_way_l70 hA X  hO x2 x3 _ _ (0 : Int32) h10 hf (fun w28 h29 hf => ?_)
        refine J_aload_n X 0 dX6_way_193 rfl rfl ?_
        refine J_get X hO.1 inX6 rfl 11 (Nat.le_of_ble_eq_true rfl) wd_602 rfl (v := .ref (o.1 5)) rfl dX6_way_194 ?_
        refine J_iload_n X 1 dX6_way_197 rfl rfl ?_
        obtain ⟨v30, qv30, hf⟩ := ob hf
        refine J_iald X hO.2.2.2.2.2.1 (ald_s qv30).1 dX6_way_198 ?_
        refine J_topi v30 (ald_s qv30).2 ?_
        refine J_ldc X wd_777 dX6_way_199 ?_
        refine J_icmp_ge (tgt := 213) X dX6_way_201 (by decide) (fun c201 => ?_) (fun c201 => ?_)
        · rw [if_pos c201] at hf
          refine J_bipush X (-6 : Int32) dX6_way_213 (by decide) ?_
          cases hf
          exact J_iret X dX6_way_215
        · rw [if_neg c201] at hf
          refine J_aload_n X 0 dX6_way_204 rfl rfl ?_
          refine J_get X hO.1 inX6 rfl 11 (Nat.le_of_ble_eq_true rfl) wd_602 rfl (v := .ref (o.1 5)) rfl dX6_way_205 ?_
          refine J_iload_n X 1 dX6_way_208 rfl rfl ?_
          obtain ⟨v31, qv31, hf⟩ := ob hf
          refine J_iald X hO.2.2.2.2.2.1 (ald_s qv31).1 dX6_way_209 ?_
          refine J_topi v31 (ald_s qv31).2 ?_
          refine J_goto (tgt := 215) X dX6_way_210 (by decide) ?_
          cases hf
          exact J_iret X dX6_way_215
      · rw [if_pos c22] at hf
        refine J_bipush X (-2 : Int32) dX6_way_25 (by decide) ?_
        cases hf
        exact J_iret X dX6_way_27
    · rw [if_pos c11] at hf
      refine J_const X (-1 : Int32) dX6_way_14 (by decide) ?_
      cases hf
      exact J_iret X dX6_way_15
theorem hd_X6_partOf : yX6_partOf.cls ≠ "java/lang/invoke/MethodHandle" ∧ yX6_partOf.cls ≠ "java/lang/invoke/VarHandle" ∧ (parseMethodDescriptor yX6_partOf.desc).map (fun d => d.parameters.length) = some 1 := by decide +kernel
set_option maxHeartbeats 4000000 in
set_option maxRecDepth 100000 in
theorem cf_X6_partOf_l16 {R : Type} (hA : ∀ h : Hp, va_D A (emb h)) (X : Cx p s m args meth c RX6 cX6_partOf 5 (some .int) o)  (hO : isX6 o emb) (s3 : Int32) (h : Hp) {kx : Int32 → Int32 → Option R} (t : R) : ∀ (n : Nat) (s2 : Int32) (s4 : Int32), f_X6_partOf_l16 s3 h kx n s2 s4 = some t → (∀ (s2 : Int32) (s4 : Int32), kx s2 s4 = some t → J p l e (rmf 3 67) s m args below meth c 0 0 Z o emb A H0 5 51 [(0, .ref (o.1 0)), (2, .int s2), (3, .int s3)] [] h) → J p l e (rmf 3 67) s m args below meth c 0 0 Z o emb A H0 5 16 [(0, .ref (o.1 0)), (2, .int s2), (3, .int s3), (4, .int s4)] [] h := by
  intro n
  induction n with
  | zero =>
    intro s2 s4 hf hk
    cases hf
  | succ n ih =>
    intro s2 s4 hf hk
    rw [f_X6_partOf_l16] at hf
    refine J_iload X 3 dX6_partOf_16 rfl ?_
    refine J_bipush X (9 : Int32) dX6_partOf_18 (by decide) ?_
    refine J_icmp_ge (tgt := 51) X dX6_partOf_20 (by decide) (fun c20 => ?_) (fun c20 => ?_)
    · rw [if_pos c20] at hf
      exact J_sub [0, 1, 2] rfl (hk s2 s4 hf)
    · rw [if_neg c20] at hf
      refine J_iload_n X 1 dX6_partOf_23 rfl rfl ?_
      refine J_iload_n X 2 dX6_partOf_24 rfl rfl ?_
      refine J_iload X 3 dX6_partOf_25 rfl ?_
      obtain ⟨v2, qv2, hf⟩ := ob hf
      refine J_callS X (rest := [.int s2]) (rs := [.int v2, .int s2]) (c_X6_has l o emb A hA s3 s4 h v2 qv2) wd_730 wd_731 wd_41 wd_732 hd_X6_has ⟨Nat.le_of_ble_eq_true rfl, Nat.le_of_ble_eq_true rfl⟩ ⟨Nat.zero_le _, Nat.zero_le _⟩ (Nat.le_of_ble_eq_true rfl) dX6_partOf_27 rfl rfl ?_
      obtain ⟨t4, qt4, hf⟩ := ob hf
      have yk3 : J p l e (rmf 3 67) s m args below meth c 0 0 Z o emb A H0 5 43 [(0, .ref (o.1 0)), (3, .int s3), (4, .int s4)] [.int t4, .int s2] h := by
        refine J_ior X dX6_partOf_43 ?_
        obtain ⟨v5, qv5, hf⟩ := ob hf
        refine J_topi v5 (Option.some.inj qv5) ?_
        refine J_istore_n X [(2, .int v5), (0, .ref (o.1 0)), (3, .int s3), (4, .int s4)] dX6_partOf_44 rfl (Nat.le_of_ble_eq_true rfl) rfl ?_
        obtain ⟨v6, qv6, hf⟩ := ob hf
        refine J_iinc X 3 [(4, .int v6), (2, .int v5), (0, .ref (o.1 0)), (3, .int s3)] dX6_partOf_45 rfl (Option.some.inj qv6) (Nat.le_of_ble_eq_true rfl) rfl ?_
        refine J_goto (tgt := 16) X dX6_partOf_48 (by decide) ?_
        exact J_sub [2, 1, 3, 0] rfl (ih v5 v6 hf hk)
      clear hf
      have hf := qt4
      clear qt4
      refine J_if_eq (tgt := 42) X dX6_partOf_30 (by decide) (fun c30 => ?_) (fun c30 => ?_)
      · rw [if_pos c30] at hf
        refine J_const X (0 : Int32) dX6_partOf_42 (by decide) ?_
        cases hf
        exact J_sub [0, 2, 3] rfl yk3
      · rw [if_neg c30] at hf
        refine J_aload_n X 0 dX6_partOf_33 rfl rfl ?_
        refine J_iload X 3 dX6_partOf_34 rfl ?_
        obtain ⟨v7, qv7, hf⟩ := ob hf
        refine J_callV X (rest := [.int s2]) (rs := [.int v7, .int s2]) (c_X6_openFrom l o emb A hA hO s4 h v7 qv7) hO.1 rfl rfl wd_765 wd_767 wd_29 wd_41 wd_768 hd_X6_openFrom ⟨Nat.le_of_ble_eq_true rfl, Nat.le_of_ble_eq_true rfl⟩ ⟨Nat.zero_le _, Nat.zero_le _⟩ (Nat.le_of_ble_eq_true rfl) dX6_partOf_36 rfl rfl ?_
        refine J_goto (tgt := 43) X dX6_partOf_39 (by decide) ?_
        cases hf
        exact J_sub [0, 2, 3] rfl yk3
set_option maxHeartbeats 4000000 in
set_option maxRecDepth 100000 in
theorem cf_X6_partOf_l6 {R : Type} (hA : ∀ h : Hp, va_D A (emb h)) (X : Cx p s m args meth c RX6 cX6_partOf 5 (some .int) o)  (hO : isX6 o emb)  (h : Hp) {kx : Int32 → Int32 → Option R} (t : R) : ∀ (n : Nat) (s2 : Int32) (s3 : Int32), f_X6_partOf_l6 h kx n s2 s3 = some t → (∀ (s2 : Int32) (s3 : Int32), kx s2 s3 = some t → J p l e (rmf 3 67) s m args below meth c 0 0 Z o emb A H0 5 54 [(2, .int s2)] [] h) → J p l e (rmf 3 67) s m args below meth c 0 0 Z o emb A H0 5 6 [(0, .ref (o.1 0)), (2, .int s2), (3, .int s3)] [] h := by
  intro n
  induction n with
  | zero =>
    intro s2 s3 hf hk
    cases hf
  | succ n ih =>
    intro s2 s3 hf hk
    rw [f_X6_partOf_l6] at hf
    refine J_iload_n X 1 dX6_partOf_6 rfl rfl ?_
    refine J_iload_n X 2 dX6_partOf_7 rfl rfl ?_
    refine J_icmp_eq (tgt := 54) X dX6_partOf_8 (by decide) (fun c8 => ?_) (fun c8 => ?_)
    · rw [if_pos c8] at hf
      exact J_sub [1] rfl (hk s2 s3 hf)
    · rw [if_neg c8] at hf
      refine J_iload_n X 1 dX6_partOf_11 rfl rfl ?_
      refine J_istore_n X [(3, .int s2), (0, .ref (o.1 0)), (2, .int s2)] dX6_partOf_12 rfl (Nat.le_of_ble_eq_true rfl) rfl ?_
      refine J_const X (0 : Int32) dX6_partOf_13 (by decide) ?_
      refine J_istore X [(4, .int (0 : Int32)), (3, .int s2), (0, .ref (o.1 0)), (2, .int s2)] dX6_partOf_14 (Nat.le_of_ble_eq_true rfl) rfl ?_
      refine J_sub (lo' := [(0, .ref (o.1 0)), (2, .int s2), (3, .int s2), (4, .int (0 : Int32))]) [2, 3, 1, 0] rfl ?_
      refine cf_X6_partOf_l16 hA X  hO s2 h _ _ s2 (0 : Int32) hf (fun w8 w9 hf => ?_)
      refine J_goto (tgt := 6) X dX6_partOf_51 (by decide) ?_
      exact J_sub [0, 1, 2] rfl (ih w8 s2 hf hk)
set_option maxHeartbeats 4000000 in
set_option maxRecDepth 100000 in
theorem c_X6_partOf (l : Launch) (o : Om) (emb : Hp → va_W) (A : Nat → Prop) (hA : ∀ h : Hp, va_D A (emb h)) (hO : isX6 o emb) (x1 : Int32) (h : Hp) (r : Int32) (hf : f_X6_partOf x1 h = some r) : Ct l o emb A yX6_partOf cX6_partOf 5 (some .int) 3 67 [.ref (o.1 0), .int x1] h (some (.int r)) h := by
  refine Ct.of RX6 rfl (by decide +kernel) hA (Nat.le_of_ble_eq_true rfl) (fun p e s m args below meth c X => ?_)
  refine J_sub (lo' := [(0, .ref (o.1 0)), (1, .int x1)]) [0, 1] rfl ?_
  rw [f_X6_partOf] at hf
  refine J_const X (1 : Int32) dX6_partOf_0 (by decide) ?_
  refine J_iload_n X 1 dX6_partOf_1 rfl rfl ?_
  refine J_ishl X dX6_partOf_2 ?_
  obtain ⟨v1, qv1, hf⟩ := ob hf
  refine J_topi v1 (Option.some.inj qv1) ?_
  refine J_istore_n X [(2, .int v1), (0, .ref (o.1 0)), (1, .int x1)] dX6_partOf_3 rfl (Nat.le_of_ble_eq_true rfl) rfl ?_
  refine J_const X (0 : Int32) dX6_partOf_4 (by decide) ?_
  refine J_istore_n X [(3, .int (0 : Int32)), (2, .int v1), (0, .ref (o.1 0)), (1, .int x1)] dX6_partOf_5 rfl (Nat.le_of_ble_eq_true rfl) rfl ?_
  refine J_sub (lo' := [(0, .ref (o.1 0)), (2, .int v1), (3, .int (0 : Int32))]) [2, 1, 0] rfl ?_
  refine cf_X6_partOf_l6 hA X  hO  h _ _ v1 (0 : Int32) hf (fun w10 w11 hf => ?_)
  refine J_iload_n X 0 dX6_partOf_54 rfl rfl ?_
  cases hf
  exact J_iret X dX6_partOf_55
theorem hd_X6_parts : yX6_parts.cls ≠ "java/lang/invoke/MethodHandle" ∧ yX6_parts.cls ≠ "java/lang/invoke/VarHandle" ∧ (parseMethodDescriptor yX6_parts.desc).map (fun d => d.parameters.length) = some 1 := by decide +kernel
set_option maxHeartbeats 4000000 in
set_option maxRecDepth 100000 in
theorem cf_X6_parts_l25 {R : Type} (hA : ∀ h : Hp, va_D A (emb h)) (X : Cx p s m args meth c RX6 cX6_parts 9 (some .int) o)  (hO : isX6 o emb) (s1 : Int32) {kx : Int32 → Int32 → Int32 → Hp → Option R} (t : R) : ∀ (n : Nat) (s2 : Int32) (s3 : Int32) (s4 : Int32) (h : Hp), f_X6_parts_l25 s1 kx n s2 s3 s4 h = some t → (∀ (s2 : Int32) (s3 : Int32) (s4 : Int32) (h : Hp), kx s2 s3 s4 h = some t → J p l e (rmf 4 91) s m args below meth c 0 0 Z o emb A H0 9 149 [(1, .int s1), (2, .int s2), (3, .int s3)] [] h) → J p l e (rmf 4 91) s m args below meth c 0 0 Z o emb A H0 9 25 [(0, .ref (o.1 0)), (1, .int s1), (2, .int s2), (3, .int s3), (4, .int s4)] [] h := by
  intro n
  induction n with
  | zero =>
    intro s2 s3 s4 h hf hk
    cases hf
  | succ n ih =>
    intro s2 s3 s4 h hf hk
    rw [f_X6_parts_l25] at hf
    refine J_iload X 4 dX6_parts_25 rfl ?_
    refine J_if_lt (tgt := 149) X dX6_parts_27 (by decide) (fun c27 => ?_) (fun c27 => ?_)
    · rw [if_pos c27] at hf
      exact J_sub [1, 2, 3] rfl (hk s2 s3 s4 h hf)
    · rw [if_neg c27] at hf
      refine J_iload X 4 dX6_parts_30 rfl ?_
      refine J_bipush X (9 : Int32) dX6_parts_32 (by decide) ?_
      refine J_idiv X dX6_parts_34 (by decide) ?_
      obtain ⟨v3, qv3, hf⟩ := ob hf
      refine J_topi v3 (Option.some.inj qv3) ?_
      refine J_istore X [(5, .int v3), (0, .ref (o.1 0)), (1, .int s1), (2, .int s2), (3, .int s3), (4, .int s4)] dX6_parts_35 (Nat.le_of_ble_eq_true rfl) rfl ?_
      refine J_iload X 5 dX6_parts_37 rfl ?_
      refine J_bipush X (9 : Int32) dX6_parts_39 (by decide) ?_
      refine J_irem X dX6_parts_41 (by decide) ?_
      obtain ⟨v4, qv4, hf⟩ := ob hf
      refine J_topi v4 (Option.some.inj qv4) ?_
      refine J_istore X [(6, .int v4), (5, .int v3), (0, .ref (o.1 0)), (1, .int s1), (2, .int s2), (3, .int s3), (4, .int s4)] dX6_parts_42 (Nat.le_of_ble_eq_true rfl) rfl ?_
      refine J_iload X 1 dX6_parts_44 rfl ?_
      refine J_iload X 0 dX6_parts_46 rfl ?_
      refine J_icmp_ge (tgt := 143) X dX6_parts_48 (by decide) (fun c48 => ?_) (fun c48 => ?_)
      · rw [if_pos c48] at hf
        obtain ⟨v5, qv5, hf⟩ := ob hf
        refine J_iinc X 6 [(4, .int v5), (6, .int v4), (5, .int v3), (0, .ref (o.1 0)), (1, .int s1), (2, .int s2), (3, .int s3)] dX6_parts_143 rfl (Option.some.inj qv5) (Nat.le_of_ble_eq_true rfl) rfl ?_
        refine J_goto (tgt := 25) X dX6_parts_146 (by decide) ?_
        exact J_sub [3, 4, 5, 6, 0] rfl (ih s2 s3 v5 h hf hk)
      · rw [if_neg c48] at hf
        refine J_aload_n X 2 dX6_parts_51 rfl rfl ?_
        refine J_iload X 1 dX6_parts_52 rfl ?_
        refine J_iload X 0 dX6_parts_54 rfl ?_
        obtain ⟨v6, qv6, hf⟩ := ob hf
        refine J_callV X (rest := []) (rs := [.int v6]) (c_X6_isOpen l o emb A hA hO v3 v4 h v6 qv6) hO.1 rfl rfl wd_769 wd_771 wd_30 wd_41 wd_772 hd_X6_isOpen ⟨Nat.le_of_ble_eq_true rfl, Nat.le_of_ble_eq_true rfl⟩ ⟨Nat.zero_le _, Nat.zero_le _⟩ (Nat.le_of_ble_eq_true rfl) dX6_parts_56 rfl rfl ?_
        refine J_if_eq (tgt := 143) X dX6_parts_59 (by decide) (fun c59 => ?_) (fun c59 => ?_)
        · rw [if_pos c59] at hf
          obtain ⟨v7, qv7, hf⟩ := ob hf
          refine J_iinc X 6 [(4, .int v7), (6, .int v4), (5, .int v3), (0, .ref (o.1 0)), (1, .int s1), (2, .int s2), (3, .int s3)] dX6_parts_143 rfl (Option.some.inj qv7) (Nat.le_of_ble_eq_true rfl) rfl ?_
          refine J_goto (tgt := 25) X dX6_parts_146 (by decide) ?_
          exact J_sub [3, 4, 5, 6, 0] rfl (ih s2 s3 v7 h hf hk)
        · rw [if_neg c59] at hf
          refine J_aload_n X 2 dX6_parts_62 rfl rfl ?_
          refine J_get X hO.1 inX6 rfl 1 (Nat.le_of_ble_eq_true rfl) wd_592 rfl (v := .ref (o.1 2)) rfl dX6_parts_63 ?_
          refine J_iload X 6 dX6_parts_66 rfl ?_
          obtain ⟨v8, qv8, hf⟩ := ob hf
          refine J_iald X hO.2.2.1 (ald_s qv8).1 dX6_parts_68 ?_
          refine J_topi v8 (ald_s qv8).2 ?_
          refine J_istore X [(7, .int v8), (6, .int v4), (5, .int v3), (0, .ref (o.1 0)), (1, .int s1), (2, .int s2), (3, .int s3), (4, .int s4)] dX6_parts_69 (Nat.le_of_ble_eq_true rfl) rfl ?_
          refine J_aload_n X 3 dX6_parts_71 rfl rfl ?_
          refine J_iload X 2 dX6_parts_72 rfl ?_
          refine J_iload X 1 dX6_parts_74 rfl ?_
          refine J_bipush X (-6 : Int32) dX6_parts_76 (by decide) ?_
          obtain ⟨h9, qh9, hf⟩ := ob hf
          refine J_callV X (rest := []) (rs := []) (c_X6_lay l o emb A hA hO v3 v4 (-6 : Int32) h h9 qh9) hO.1 rfl rfl wd_714 wd_716 wd_21 wd_41 wd_717 hd_X6_lay ⟨Nat.le_of_ble_eq_true rfl, Nat.le_of_ble_eq_true rfl⟩ ⟨Nat.zero_le _, Nat.zero_le _⟩ (Nat.le_of_ble_eq_true rfl) dX6_parts_78 rfl rfl ?_
          refine J_aload_n X 3 dX6_parts_81 rfl rfl ?_
          refine J_iload X 2 dX6_parts_82 rfl ?_
          obtain ⟨v10, qv10, hf⟩ := ob hf
          refine J_callV X (rest := []) (rs := [.int v10]) (c_X6_partOf l o emb A hA hO v3 h9 v10 qv10) hO.1 rfl rfl wd_782 wd_784 wd_31 wd_41 wd_785 hd_X6_partOf ⟨Nat.le_of_ble_eq_true rfl, Nat.le_of_ble_eq_true rfl⟩ ⟨Nat.zero_le _, Nat.zero_le _⟩ (Nat.le_of_ble_eq_true rfl) dX6_parts_84 rfl rfl ?_
          refine J_iload X 1 dX6_parts_87 rfl ?_
          obtain ⟨v11, qv11, hf⟩ := ob hf
          refine J_callS X (rest := []) (rs := [.int v11]) (c_X6_has l o emb A hA v10 v4 h9 v11 qv11) wd_730 wd_731 wd_41 wd_732 hd_X6_has ⟨Nat.le_of_ble_eq_true rfl, Nat.le_of_ble_eq_true rfl⟩ ⟨Nat.zero_le _, Nat.zero_le _⟩ (Nat.le_of_ble_eq_true rfl) dX6_parts_89 rfl rfl ?_
          obtain ⟨t13, qt13, hf⟩ := ob hf
          have yk12 : J p l e (rmf 4 91) s m args below meth c 0 0 Z o emb A H0 9 100 [(0, .ref (o.1 0)), (1, .int s1), (2, .int s2), (3, .int s3), (4, .int s4), (5, .int v3), (6, .int v4), (7, .int v8)] [.int t13] h9 := by
            refine J_istore X [(8, .int t13), (0, .ref (o.1 0)), (1, .int s1), (2, .int s2), (3, .int s3), (4, .int s4), (5, .int v3), (6, .int v4), (7, .int v8)] dX6_parts_100 (Nat.le_of_ble_eq_true rfl) rfl ?_
            refine J_aload_n X 1 dX6_parts_102 rfl rfl ?_
            refine J_iload X 6 dX6_parts_103 rfl ?_
            refine J_iload X 7 dX6_parts_105 rfl ?_
            refine J_iload X 8 dX6_parts_107 rfl ?_
            obtain ⟨h14, qh14, hf⟩ := ob hf
            refine J_callV X (rest := []) (rs := []) (c_X6_lay l o emb A hA hO v3 v4 v8 h9 h14 qh14) hO.1 rfl rfl wd_714 wd_716 wd_21 wd_41 wd_717 hd_X6_lay ⟨Nat.le_of_ble_eq_true rfl, Nat.le_of_ble_eq_true rfl⟩ ⟨Nat.zero_le _, Nat.zero_le _⟩ (Nat.le_of_ble_eq_true rfl) dX6_parts_109 rfl rfl ?_
            refine J_iload_n X 3 dX6_parts_112 rfl rfl ?_
            refine J_iload X 0 dX6_parts_113 rfl ?_
            obtain ⟨t16, qt16, hf⟩ := ob hf
            have yk15 : J p l e (rmf 4 91) s m args below meth c 0 0 Z o emb A H0 9 123 [(0, .ref (o.1 0)), (1, .int s1), (3, .int s3), (4, .int s4), (5, .int v3), (6, .int v4), (8, .int t13)] [.int t16, .int s2] h14 := by
              refine J_iadd X dX6_parts_123 ?_
              obtain ⟨v17, qv17, hf⟩ := ob hf
              refine J_topi v17 (Option.some.inj qv17) ?_
              refine J_istore_n X [(2, .int v17), (0, .ref (o.1 0)), (1, .int s1), (3, .int s3), (4, .int s4), (5, .int v3), (6, .int v4), (8, .int t13)] dX6_parts_124 rfl (Nat.le_of_ble_eq_true rfl) rfl ?_
              refine J_iload X 7 dX6_parts_125 rfl ?_
              obtain ⟨t19, qt19, hf⟩ := ob hf
              have yk18 : J p l e (rmf 4 91) s m args below meth c 0 0 Z o emb A H0 9 142 [(0, .ref (o.1 0)), (1, .int s1), (2, .int v17), (4, .int s4)] [.int t19] h14 := by
                refine J_istore_n X [(3, .int t19), (0, .ref (o.1 0)), (1, .int s1), (2, .int v17), (4, .int s4)] dX6_parts_142 rfl (Nat.le_of_ble_eq_true rfl) rfl ?_
                obtain ⟨v20, qv20, hf⟩ := ob hf
                refine J_iinc X 4 [(4, .int v20), (3, .int t19), (0, .ref (o.1 0)), (1, .int s1), (2, .int v17)] dX6_parts_143 rfl (Option.some.inj qv20) (Nat.le_of_ble_eq_true rfl) rfl ?_
                refine J_goto (tgt := 25) X dX6_parts_146 (by decide) ?_
                exact J_sub [2, 3, 4, 1, 0] rfl (ih v17 t19 v20 h14 hf hk)
              clear hf
              have hf := qt19
              clear qt19
              refine J_if_eq (tgt := 141) X dX6_parts_127 (by decide) (fun c127 => ?_) (fun c127 => ?_)
              · rw [if_pos c127] at hf
                refine J_iload_n X 3 dX6_parts_141 rfl rfl ?_
                cases hf
                exact J_sub [1, 2, 0, 4] rfl yk18
              · rw [if_neg c127] at hf
                refine J_bipush X (10 : Int32) dX6_parts_130 (by decide) ?_
                refine J_iload X 5 dX6_parts_132 rfl ?_
                refine J_imul X dX6_parts_134 ?_
                refine J_iload X 6 dX6_parts_135 rfl ?_
                refine J_iadd X dX6_parts_137 ?_
                refine J_goto (tgt := 142) X dX6_parts_138 (by decide) ?_
                cases hf
                exact J_sub [1, 2, 0, 4] rfl yk18
            clear hf
            have hf := qt16
            clear qt16
            refine J_if_eq (tgt := 122) X dX6_parts_115 (by decide) (fun c115 => ?_) (fun c115 => ?_)
            · rw [if_pos c115] at hf
              refine J_const X (0 : Int32) dX6_parts_122 (by decide) ?_
              cases hf
              exact J_sub [1, 2, 4, 5, 6, 7, 0] rfl yk15
            · rw [if_neg c115] at hf
              refine J_const X (1 : Int32) dX6_parts_118 (by decide) ?_
              refine J_goto (tgt := 123) X dX6_parts_119 (by decide) ?_
              cases hf
              exact J_sub [1, 2, 4, 5, 6, 7, 0] rfl yk15
          clear hf
          have hf := qt13
          clear qt13
          refine J_if_ne (tgt := 99) X dX6_parts_92 (by decide) (fun c92 => ?_) (fun c92 => ?_)
          · rw [if_neg c92] at hf
            refine J_const X (0 : Int32) dX6_parts_99 (by decide) ?_
            cases hf
            exact J_sub [3, 4, 5, 6, 7, 2, 1, 0] rfl yk12
          · rw [if_pos c92] at hf
            refine J_const X (1 : Int32) dX6_parts_95 (by decide) ?_
            refine J_goto (tgt := 100) X dX6_parts_96 (by decide) ?_
            cases hf
            exact J_sub [3, 4, 5, 6, 7, 2, 1, 0] rfl yk12
set_option maxHeartbeats 4000000 in
set_option maxRecDepth 100000 in
theorem c_X6_parts (l : Launch) (o : Om) (emb : Hp → va_W) (A : Nat → Prop) (hA : ∀ h : Hp, va_D A (emb h)) (hO : isX6 o emb) (x1 : Int32) (h : Hp) (r : Int32) (h' : Hp) (hf : f_X6_parts x1 h = some (r, h')) : Ct l o emb A yX6_parts cX6_parts 9 (some .int) 4 91 [.ref (o.1 0), .int x1] h (some (.int r)) h' := by
  refine Ct.of RX6 rfl (by decide +kernel) hA (Nat.le_of_ble_eq_true rfl) (fun p e s m args below meth c X => ?_)
  refine J_sub (lo' := [(0, .ref (o.1 0)), (1, .int x1)]) [0, 1] rfl ?_
  rw [f_X6_parts] at hf
  refine J_iload_n X 1 dX6_parts_0 rfl rfl ?_
  refine J_const X (0 : Int32) dX6_parts_1 (by decide) ?_
  refine J_const X (1 : Int32) dX6_parts_2 (by decide) ?_
  obtain ⟨v1, qv1, hf⟩ := ob hf
  refine J_callS X (rest := []) (rs := [.int v1]) (c_X6_in l o emb A hA x1 (0 : Int32) (1 : Int32) h v1 qv1) wd_660 wd_661 wd_41 wd_662 hd_X6_in ⟨Nat.le_of_ble_eq_true rfl, Nat.le_of_ble_eq_true rfl⟩ ⟨Nat.zero_le _, Nat.zero_le _⟩ (Nat.le_of_ble_eq_true rfl) dX6_parts_3 rfl rfl ?_
  refine J_if_ne (tgt := 12) X dX6_parts_6 (by decide) (fun c6 => ?_) (fun c6 => ?_)
  · rw [if_neg c6] at hf
    refine J_aload_n X 0 dX6_parts_12 rfl rfl ?_
    obtain ⟨h2, qh2, hf⟩ := ob hf
    refine J_callV X (rest := []) (rs := []) (c_X6_asNow l o emb A hA hO h h2 qh2) hO.1 rfl rfl wd_663 wd_665 wd_14 wd_41 wd_666 hd_X6_asNow ⟨Nat.le_of_ble_eq_true rfl, Nat.le_of_ble_eq_true rfl⟩ ⟨Nat.zero_le _, Nat.zero_le _⟩ (Nat.le_of_ble_eq_true rfl) dX6_parts_13 rfl rfl ?_
    refine J_const X (0 : Int32) dX6_parts_16 (by decide) ?_
    refine J_istore_n X [(2, .int (0 : Int32)), (0, .ref (o.1 0)), (1, .int x1)] dX6_parts_17 rfl (Nat.le_of_ble_eq_true rfl) rfl ?_
    refine J_bipush X (-6 : Int32) dX6_parts_18 (by decide) ?_
    refine J_istore_n X [(3, .int (-6 : Int32)), (2, .int (0 : Int32)), (0, .ref (o.1 0)), (1, .int x1)] dX6_parts_20 rfl (Nat.le_of_ble_eq_true rfl) rfl ?_
    refine J_bipush X (80 : Int32) dX6_parts_21 (by decide) ?_
    refine J_istore X [(4, .int (80 : Int32)), (3, .int (-6 : Int32)), (2, .int (0 : Int32)), (0, .ref (o.1 0)), (1, .int x1)] dX6_parts_23 (Nat.le_of_ble_eq_true rfl) rfl ?_
    refine J_sub (lo' := [(0, .ref (o.1 0)), (1, .int x1), (2, .int (0 : Int32)), (3, .int (-6 : Int32)), (4, .int (80 : Int32))]) [3, 4, 2, 1, 0] rfl ?_
    refine cf_X6_parts_l25 hA X  hO x1 _ _ (0 : Int32) (-6 : Int32) (80 : Int32) h2 hf (fun w21 w22 w23 h24 hf => ?_)
    refine J_iload_n X 0 dX6_parts_149 rfl rfl ?_
    refine J_if_ne (tgt := 157) X dX6_parts_150 (by decide) (fun c150 => ?_) (fun c150 => ?_)
    · rw [if_neg c150] at hf
      refine J_iload_n X 2 dX6_parts_157 rfl rfl ?_
      cases hf
      exact J_iret X dX6_parts_158
    · rw [if_pos c150] at hf
      refine J_iload_n X 1 dX6_parts_153 rfl rfl ?_
      refine J_goto (tgt := 158) X dX6_parts_154 (by decide) ?_
      cases hf
      exact J_iret X dX6_parts_158
  · rw [if_pos c6] at hf
    refine J_bipush X (-2 : Int32) dX6_parts_9 (by decide) ?_
    cases hf
    exact J_iret X dX6_parts_11
theorem hd_X6_strokes : yX6_strokes.cls ≠ "java/lang/invoke/MethodHandle" ∧ yX6_strokes.cls ≠ "java/lang/invoke/VarHandle" ∧ (parseMethodDescriptor yX6_strokes.desc).map (fun d => d.parameters.length) = some 0 := by decide +kernel
set_option maxHeartbeats 4000000 in
set_option maxRecDepth 100000 in
theorem cf_X6_strokes_l37 {R : Type} (hA : ∀ h : Hp, va_D A (emb h)) (X : Cx p s m args meth c RX6 cX6_strokes 7 (some .int) o)  (hO : isX6 o emb) (s1 : Int32) (s2 : Int32) (s3 : Int32) (s4 : Int32) (h : Hp) {kx : Int32 → Int32 → Option R} (t : R) : ∀ (n : Nat) (s5 : Int32) (s6 : Int32), f_X6_strokes_l37 s1 s2 s3 s4 h kx n s5 s6 = some t → (∀ (s5 : Int32) (s6 : Int32), kx s5 s6 = some t → J p l e (rmf 4 91) s m args below meth c 0 0 Z o emb A H0 7 80 [(0, .ref (o.1 0)), (1, .int s1), (2, .int s2), (3, .int s3), (4, .int s4), (5, .int s5)] [] h) → J p l e (rmf 4 91) s m args below meth c 0 0 Z o emb A H0 7 37 [(0, .ref (o.1 0)), (1, .int s1), (2, .int s2), (3, .int s3), (4, .int s4), (5, .int s5), (6, .int s6)] [] h := by
  intro n
  induction n with
  | zero =>
    intro s5 s6 hf hk
    cases hf
  | succ n ih =>
    intro s5 s6 hf hk
    rw [f_X6_strokes_l37] at hf
    refine J_iload X 6 dX6_strokes_37 rfl ?_
    refine J_bipush X (9 : Int32) dX6_strokes_39 (by decide) ?_
    refine J_icmp_ge (tgt := 80) X dX6_strokes_41 (by decide) (fun c41 => ?_) (fun c41 => ?_)
    · rw [if_pos c41] at hf
      exact J_sub [0, 1, 2, 3, 4, 5] rfl (hk s5 s6 hf)
    · rw [if_neg c41] at hf
      refine J_iload X 5 dX6_strokes_44 rfl ?_
      refine J_iload X 4 dX6_strokes_46 rfl ?_
      refine J_iload X 6 dX6_strokes_48 rfl ?_
      obtain ⟨v5, qv5, hf⟩ := ob hf
      refine J_callS X (rest := [.int s5]) (rs := [.int v5, .int s5]) (c_X6_has l o emb A hA s4 s6 h v5 qv5) wd_730 wd_731 wd_41 wd_732 hd_X6_has ⟨Nat.le_of_ble_eq_true rfl, Nat.le_of_ble_eq_true rfl⟩ ⟨Nat.zero_le _, Nat.zero_le _⟩ (Nat.le_of_ble_eq_true rfl) dX6_strokes_50 rfl rfl ?_
      obtain ⟨t7, qt7, hf⟩ := ob hf
      have yk6 : J p l e (rmf 4 91) s m args below meth c 0 0 Z o emb A H0 7 71 [(0, .ref (o.1 0)), (1, .int s1), (2, .int s2), (3, .int s3), (4, .int s4), (6, .int s6)] [.int t7, .int s5] h := by
        refine J_iadd X dX6_strokes_71 ?_
        obtain ⟨v8, qv8, hf⟩ := ob hf
        refine J_topi v8 (Option.some.inj qv8) ?_
        refine J_istore X [(5, .int v8), (0, .ref (o.1 0)), (1, .int s1), (2, .int s2), (3, .int s3), (4, .int s4), (6, .int s6)] dX6_strokes_72 (Nat.le_of_ble_eq_true rfl) rfl ?_
        obtain ⟨v9, qv9, hf⟩ := ob hf
        refine J_iinc X 6 [(6, .int v9), (5, .int v8), (0, .ref (o.1 0)), (1, .int s1), (2, .int s2), (3, .int s3), (4, .int s4)] dX6_strokes_74 rfl (Option.some.inj qv9) (Nat.le_of_ble_eq_true rfl) rfl ?_
        refine J_goto (tgt := 37) X dX6_strokes_77 (by decide) ?_
        exact J_sub [2, 3, 4, 5, 6, 1, 0] rfl (ih v8 v9 hf hk)
      clear hf
      have hf := qt7
      clear qt7
      refine J_if_eq (tgt := 70) X dX6_strokes_53 (by decide) (fun c53 => ?_) (fun c53 => ?_)
      · rw [if_pos c53] at hf
        refine J_const X (0 : Int32) dX6_strokes_70 (by decide) ?_
        cases hf
        exact J_sub [0, 1, 2, 3, 4, 6] rfl yk6
      · rw [if_neg c53] at hf
        refine J_aload_n X 0 dX6_strokes_56 rfl rfl ?_
        refine J_iload X 6 dX6_strokes_57 rfl ?_
        obtain ⟨v10, qv10, hf⟩ := ob hf
        refine J_callV X (rest := [.int s5]) (rs := [.int v10, .int s5]) (c_X6_openFrom l o emb A hA hO s6 h v10 qv10) hO.1 rfl rfl wd_765 wd_767 wd_29 wd_41 wd_768 hd_X6_openFrom ⟨Nat.le_of_ble_eq_true rfl, Nat.le_of_ble_eq_true rfl⟩ ⟨Nat.zero_le _, Nat.zero_le _⟩ (Nat.le_of_ble_eq_true rfl) dX6_strokes_59 rfl rfl ?_
        obtain ⟨v11, qv11, hf⟩ := ob hf
        refine J_callS X (rest := [.int s5]) (rs := [.int v11, .int s5]) (c_X6_bits l o emb A hA v10 h v11 qv11) wd_675 wd_676 wd_41 wd_677 hd_X6_bits ⟨Nat.le_of_ble_eq_true rfl, Nat.le_of_ble_eq_true rfl⟩ ⟨Nat.zero_le _, Nat.zero_le _⟩ (Nat.le_of_ble_eq_true rfl) dX6_strokes_62 rfl rfl ?_
        refine J_const X (2 : Int32) dX6_strokes_65 (by decide) ?_
        refine J_irem X dX6_strokes_66 (by decide) ?_
        refine J_goto (tgt := 71) X dX6_strokes_67 (by decide) ?_
        cases hf
        exact J_sub [0, 1, 2, 3, 4, 6] rfl yk6
set_option maxHeartbeats 4000000 in
set_option maxRecDepth 100000 in
theorem cf_X6_strokes_l10 {R : Type} (hA : ∀ h : Hp, va_D A (emb h)) (X : Cx p s m args meth c RX6 cX6_strokes 7 (some .int) o)  (hO : isX6 o emb)  (h : Hp) {kx : Int32 → Int32 → Int32 → Option R} (t : R) : ∀ (n : Nat) (s1 : Int32) (s2 : Int32) (s3 : Int32), f_X6_strokes_l10 h kx n s1 s2 s3 = some t → (∀ (s1 : Int32) (s2 : Int32) (s3 : Int32), kx s1 s2 s3 = some t → J p l e (rmf 4 91) s m args below meth c 0 0 Z o emb A H0 7 120 [(1, .int s1)] [] h) → J p l e (rmf 4 91) s m args below meth c 0 0 Z o emb A H0 7 10 [(0, .ref (o.1 0)), (1, .int s1), (2, .int s2), (3, .int s3)] [] h := by
  intro n
  induction n with
  | zero =>
    intro s1 s2 s3 hf hk
    cases hf
  | succ n ih =>
    intro s1 s2 s3 hf hk
    rw [f_X6_strokes_l10] at hf
    refine J_iload_n X 3 dX6_strokes_10 rfl rfl ?_
    refine J_bipush X (9 : Int32) dX6_strokes_11 (by decide) ?_
    refine J_icmp_ge (tgt := 120) X dX6_strokes_13 (by decide) (fun c13 => ?_) (fun c13 => ?_)
    · rw [if_pos c13] at hf
      exact J_sub [1] rfl (hk s1 s2 s3 hf)
    · rw [if_neg c13] at hf
      refine J_iload_n X 2 dX6_strokes_16 rfl rfl ?_
      refine J_iload_n X 3 dX6_strokes_17 rfl rfl ?_
      obtain ⟨v2, qv2, hf⟩ := ob hf
      refine J_callS X (rest := []) (rs := [.int v2]) (c_X6_has l o emb A hA s2 s3 h v2 qv2) wd_730 wd_731 wd_41 wd_732 hd_X6_has ⟨Nat.le_of_ble_eq_true rfl, Nat.le_of_ble_eq_true rfl⟩ ⟨Nat.zero_le _, Nat.zero_le _⟩ (Nat.le_of_ble_eq_true rfl) dX6_strokes_18 rfl rfl ?_
      refine J_if_ne (tgt := 114) X dX6_strokes_21 (by decide) (fun c21 => ?_) (fun c21 => ?_)
      · rw [if_neg c21] at hf
        obtain ⟨v3, qv3, hf⟩ := ob hf
        refine J_iinc X 3 [(3, .int v3), (0, .ref (o.1 0)), (1, .int s1), (2, .int s2)] dX6_strokes_114 rfl (Option.some.inj qv3) (Nat.le_of_ble_eq_true rfl) rfl ?_
        refine J_goto (tgt := 10) X dX6_strokes_117 (by decide) ?_
        exact J_sub [1, 2, 3, 0] rfl (ih s1 s2 v3 hf hk)
      · rw [if_pos c21] at hf
        refine J_aload_n X 0 dX6_strokes_24 rfl rfl ?_
        refine J_iload_n X 3 dX6_strokes_25 rfl rfl ?_
        obtain ⟨v4, qv4, hf⟩ := ob hf
        refine J_callV X (rest := []) (rs := [.int v4]) (c_X6_partOf l o emb A hA hO s3 h v4 qv4) hO.1 rfl rfl wd_782 wd_784 wd_31 wd_41 wd_785 hd_X6_partOf ⟨Nat.le_of_ble_eq_true rfl, Nat.le_of_ble_eq_true rfl⟩ ⟨Nat.zero_le _, Nat.zero_le _⟩ (Nat.le_of_ble_eq_true rfl) dX6_strokes_26 rfl rfl ?_
        refine J_istore X [(4, .int v4), (0, .ref (o.1 0)), (1, .int s1), (2, .int s2), (3, .int s3)] dX6_strokes_29 (Nat.le_of_ble_eq_true rfl) rfl ?_
        refine J_const X (0 : Int32) dX6_strokes_31 (by decide) ?_
        refine J_istore X [(5, .int (0 : Int32)), (4, .int v4), (0, .ref (o.1 0)), (1, .int s1), (2, .int s2), (3, .int s3)] dX6_strokes_32 (Nat.le_of_ble_eq_true rfl) rfl ?_
        refine J_const X (0 : Int32) dX6_strokes_34 (by decide) ?_
        refine J_istore X [(6, .int (0 : Int32)), (5, .int (0 : Int32)), (4, .int v4), (0, .ref (o.1 0)), (1, .int s1), (2, .int s2), (3, .int s3)] dX6_strokes_35 (Nat.le_of_ble_eq_true rfl) rfl ?_
        refine J_sub (lo' := [(0, .ref (o.1 0)), (1, .int s1), (2, .int s2), (3, .int s3), (4, .int v4), (5, .int (0 : Int32)), (6, .int (0 : Int32))]) [3, 4, 5, 6, 2, 1, 0] rfl ?_
        refine cf_X6_strokes_l37 hA X  hO s1 s2 s3 v4 h _ _ (0 : Int32) (0 : Int32) hf (fun w12 w13 hf => ?_)
        refine J_iload_n X 2 dX6_strokes_80 rfl rfl ?_
        refine J_iload X 4 dX6_strokes_81 rfl ?_
        refine J_ior X dX6_strokes_83 ?_
        obtain ⟨v14, qv14, hf⟩ := ob hf
        refine J_topi v14 (Option.some.inj qv14) ?_
        refine J_istore_n X [(2, .int v14), (0, .ref (o.1 0)), (1, .int s1), (3, .int s3), (4, .int v4), (5, .int w12)] dX6_strokes_84 rfl (Nat.le_of_ble_eq_true rfl) rfl ?_
        refine J_iload_n X 2 dX6_strokes_85 rfl rfl ?_
        refine J_iload X 4 dX6_strokes_86 rfl ?_
        obtain ⟨v15, qv15, hf⟩ := ob hf
        refine J_callS X (rest := [.int s1]) (rs := [.int v15, .int s1]) (c_X6_bits l o emb A hA v4 h v15 qv15) wd_675 wd_676 wd_41 wd_677 hd_X6_bits ⟨Nat.le_of_ble_eq_true rfl, Nat.le_of_ble_eq_true rfl⟩ ⟨Nat.zero_le _, Nat.zero_le _⟩ (Nat.le_of_ble_eq_true rfl) dX6_strokes_88 rfl rfl ?_
        refine J_const X (1 : Int32) dX6_strokes_91 (by decide) ?_
        obtain ⟨t17, qt17, hf⟩ := ob hf
        have yk16 : J p l e (rmf 4 91) s m args below meth c 0 0 Z o emb A H0 7 112 [(0, .ref (o.1 0)), (2, .int v14), (3, .int s3)] [.int t17, .int s1] h := by
          refine J_iadd X dX6_strokes_112 ?_
          obtain ⟨v18, qv18, hf⟩ := ob hf
          refine J_topi v18 (Option.some.inj qv18) ?_
          refine J_istore_n X [(1, .int v18), (0, .ref (o.1 0)), (2, .int v14), (3, .int s3)] dX6_strokes_113 rfl (Nat.le_of_ble_eq_true rfl) rfl ?_
          obtain ⟨v19, qv19, hf⟩ := ob hf
          refine J_iinc X 3 [(3, .int v19), (1, .int v18), (0, .ref (o.1 0)), (2, .int v14)] dX6_strokes_114 rfl (Option.some.inj qv19) (Nat.le_of_ble_eq_true rfl) rfl ?_
          refine J_goto (tgt := 10) X dX6_strokes_117 (by decide) ?_
          exact J_sub [2, 1, 3, 0] rfl (ih v18 v14 v19 hf hk)
        clear hf
        have hf := qt17
        clear qt17
        refine J_icmp_ne (tgt := 99) X dX6_strokes_92 (by decide) (fun c92 => ?_) (fun c92 => ?_)
        · rw [if_neg c92] at hf
          refine J_iload X 5 dX6_strokes_99 rfl ?_
          refine J_if_ne (tgt := 108) X dX6_strokes_101 (by decide) (fun c101 => ?_) (fun c101 => ?_)
          · rw [if_neg c101] at hf
            refine J_iload X 5 dX6_strokes_108 rfl ?_
            refine J_const X (2 : Int32) dX6_strokes_110 (by decide) ?_
            refine J_idiv X dX6_strokes_111 (by decide) ?_
            cases hf
            exact J_sub [1, 0, 3] rfl yk16
          · rw [if_pos c101] at hf
            refine J_const X (1 : Int32) dX6_strokes_104 (by decide) ?_
            refine J_goto (tgt := 112) X dX6_strokes_105 (by decide) ?_
            cases hf
            exact J_sub [1, 0, 3] rfl yk16
        · rw [if_pos c92] at hf
          refine J_const X (0 : Int32) dX6_strokes_95 (by decide) ?_
          refine J_goto (tgt := 112) X dX6_strokes_96 (by decide) ?_
          cases hf
          exact J_sub [1, 0, 3] rfl yk16
set_option maxHeartbeats 4000000 in
set_option maxRecDepth 100000 in
theorem c_X6_strokes (l : Launch) (o : Om) (emb : Hp → va_W) (A : Nat → Prop) (hA : ∀ h : Hp, va_D A (emb h)) (hO : isX6 o emb) (h : Hp) (r : Int32) (h' : Hp) (hf : f_X6_strokes h = some (r, h')) : Ct l o emb A yX6_strokes cX6_strokes 7 (some .int) 4 91 [.ref (o.1 0)] h (some (.int r)) h' := by
  refine Ct.of RX6 rfl (by decide +kernel) hA (Nat.le_of_ble_eq_true rfl) (fun p e s m args below meth c X => ?_)
  refine J_sub (lo' := [(0, .ref (o.1 0))]) [0] rfl ?_
  rw [f_X6_strokes] at hf
  refine J_aload_n X 0 dX6_strokes_0 rfl rfl ?_
  obtain ⟨h1, qh1, hf⟩ := ob hf
  refine J_callV X (rest := []) (rs := []) (c_X6_asNow l o emb A hA hO h h1 qh1) hO.1 rfl rfl wd_663 wd_665 wd_14 wd_41 wd_666 hd_X6_asNow ⟨Nat.le_of_ble_eq_true rfl, Nat.le_of_ble_eq_true rfl⟩ ⟨Nat.zero_le _, Nat.zero_le _⟩ (Nat.le_of_ble_eq_true rfl) dX6_strokes_1 rfl rfl ?_
  refine J_const X (0 : Int32) dX6_strokes_4 (by decide) ?_
  refine J_istore_n X [(1, .int (0 : Int32)), (0, .ref (o.1 0))] dX6_strokes_5 rfl (Nat.le_of_ble_eq_true rfl) rfl ?_
  refine J_const X (0 : Int32) dX6_strokes_6 (by decide) ?_
  refine J_istore_n X [(2, .int (0 : Int32)), (1, .int (0 : Int32)), (0, .ref (o.1 0))] dX6_strokes_7 rfl (Nat.le_of_ble_eq_true rfl) rfl ?_
  refine J_const X (0 : Int32) dX6_strokes_8 (by decide) ?_
  refine J_istore_n X [(3, .int (0 : Int32)), (2, .int (0 : Int32)), (1, .int (0 : Int32)), (0, .ref (o.1 0))] dX6_strokes_9 rfl (Nat.le_of_ble_eq_true rfl) rfl ?_
  refine J_sub (lo' := [(0, .ref (o.1 0)), (1, .int (0 : Int32)), (2, .int (0 : Int32)), (3, .int (0 : Int32))]) [3, 2, 1, 0] rfl ?_
  refine cf_X6_strokes_l10 hA X  hO  h1 _ _ (0 : Int32) (0 : Int32) (0 : Int32) hf (fun w20 w21 w22 hf => ?_)
  refine J_iload_n X 0 dX6_strokes_120 rfl rfl ?_
  cases hf
  exact J_iret X dX6_strokes_121
theorem hd_X6_mended : yX6_mended.cls ≠ "java/lang/invoke/MethodHandle" ∧ yX6_mended.cls ≠ "java/lang/invoke/VarHandle" ∧ (parseMethodDescriptor yX6_mended.desc).map (fun d => d.parameters.length) = some 3 := by decide +kernel
set_option maxHeartbeats 4000000 in
set_option maxRecDepth 100000 in
theorem cf_X6_mended_l36 {R : Type} (hA : ∀ h : Hp, va_D A (emb h)) (X : Cx p s m args meth c RX6 cX6_mended 12 (some .int) o)  (hO : isX6 o emb) (s2 : Int32) (s3 : Int32) {kx : Int32 → Int32 → Int32 → Hp → Option R} (t : R) : ∀ (n : Nat) (s4 : Int32) (s5 : Int32) (s6 : Int32) (h : Hp), f_X6_mended_l36 s2 s3 kx n s4 s5 s6 h = some t → (∀ (s4 : Int32) (s5 : Int32) (s6 : Int32) (h : Hp), kx s4 s5 s6 h = some t → J p l e (rmf 1 22) s m args below meth c 0 0 Z o emb A H0 12 89 [(0, .ref (o.1 0)), (2, .int s2), (3, .int s3), (4, .int s4), (5, .int s5)] [] h) → J p l e (rmf 1 22) s m args below meth c 0 0 Z o emb A H0 12 36 [(0, .ref (o.1 0)), (2, .int s2), (3, .int s3), (4, .int s4), (5, .int s5), (6, .int s6)] [] h := by
  intro n
  induction n with
  | zero =>
    intro s4 s5 s6 h hf hk
    cases hf
  | succ n ih =>
    intro s4 s5 s6 h hf hk
    rw [f_X6_mended_l36] at hf
    refine J_iload X 5 dX6_mended_36 rfl ?_
    refine J_iload_n X 1 dX6_mended_38 rfl rfl ?_
    refine J_icmp_ge (tgt := 89) X dX6_mended_39 (by decide) (fun c39 => ?_) (fun c39 => ?_)
    · rw [if_pos c39] at hf
      exact J_sub [0, 1, 2, 3, 4] rfl (hk s4 s5 s6 h hf)
    · rw [if_neg c39] at hf
      refine J_iload X 3 dX6_mended_42 rfl ?_
      refine J_if_eq (tgt := 89) X dX6_mended_44 (by decide) (fun c44 => ?_) (fun c44 => ?_)
      · rw [if_pos c44] at hf
        exact J_sub [0, 1, 2, 3, 4] rfl (hk s4 s5 s6 h hf)
      · rw [if_neg c44] at hf
        refine J_aload_n X 0 dX6_mended_47 rfl rfl ?_
        refine J_get X hO.1 inX6 rfl 12 (Nat.le_of_ble_eq_true rfl) wd_603 rfl (v := .ref (o.1 6)) rfl dX6_mended_48 ?_
        refine J_iload X 5 dX6_mended_51 rfl ?_
        refine J_iload X 4 dX6_mended_53 rfl ?_
        refine J_bipush X (10 : Int32) dX6_mended_55 (by decide) ?_
        refine J_irem X dX6_mended_57 (by decide) ?_
        obtain ⟨h4, qh4, hf⟩ := ob hf
        refine J_iast X hO.2.2.2.2.2.2.1 (ast_s qh4).1 dX6_mended_58 ?_
        refine J_hp h4 (ast_s qh4).2 ?_
        refine J_aload_n X 0 dX6_mended_59 rfl rfl ?_
        refine J_get X hO.1 inX6 rfl 12 (Nat.le_of_ble_eq_true rfl) wd_603 rfl (v := .ref (o.1 6)) rfl dX6_mended_60 ?_
        refine J_iload X 5 dX6_mended_63 rfl ?_
        obtain ⟨v5, qv5, hf⟩ := ob hf
        refine J_iald X hO.2.2.2.2.2.2.1 (ald_s qv5).1 dX6_mended_65 ?_
        refine J_topi v5 (ald_s qv5).2 ?_
        obtain ⟨t7, qt7, hf⟩ := ob hf
        have yk6 : J p l e (rmf 1 22) s m args below meth c 0 0 Z o emb A H0 12 74 [(0, .ref (o.1 0)), (2, .int s2), (3, .int s3), (5, .int s5), (6, .int s6)] [.int t7] h4 := by
          refine J_istore X [(4, .int t7), (0, .ref (o.1 0)), (2, .int s2), (3, .int s3), (5, .int s5), (6, .int s6)] dX6_mended_74 (Nat.le_of_ble_eq_true rfl) rfl ?_
          refine J_iload X 4 dX6_mended_76 rfl ?_
          refine J_bipush X (10 : Int32) dX6_mended_78 (by decide) ?_
          refine J_idiv X dX6_mended_80 (by decide) ?_
          obtain ⟨v8, qv8, hf⟩ := ob hf
          refine J_topi v8 (Option.some.inj qv8) ?_
          refine J_istore X [(5, .int v8), (4, .int t7), (0, .ref (o.1 0)), (2, .int s2), (3, .int s3), (6, .int s6)] dX6_mended_81 (Nat.le_of_ble_eq_true rfl) rfl ?_
          obtain ⟨v9, qv9, hf⟩ := ob hf
          refine J_iinc X 5 [(6, .int v9), (5, .int v8), (4, .int t7), (0, .ref (o.1 0)), (2, .int s2), (3, .int s3)] dX6_mended_83 rfl (Option.some.inj qv9) (Nat.le_of_ble_eq_true rfl) rfl ?_
          refine J_goto (tgt := 36) X dX6_mended_86 (by decide) ?_
          exact J_sub [3, 4, 5, 2, 1, 0] rfl (ih t7 v8 v9 h4 hf hk)
        clear hf
        have hf := qt7
        clear qt7
        refine J_if_le (tgt := 73) X dX6_mended_66 (by decide) (fun c66 => ?_) (fun c66 => ?_)
        · rw [if_pos c66] at hf
          refine J_const X (0 : Int32) dX6_mended_73 (by decide) ?_
          cases hf
          exact J_sub [0, 1, 2, 4, 5] rfl yk6
        · rw [if_neg c66] at hf
          refine J_const X (1 : Int32) dX6_mended_69 (by decide) ?_
          refine J_goto (tgt := 74) X dX6_mended_70 (by decide) ?_
          cases hf
          exact J_sub [0, 1, 2, 4, 5] rfl yk6
set_option maxHeartbeats 4000000 in
set_option maxRecDepth 100000 in
theorem cf_X6_mended_l108 {R : Type} (hA : ∀ h : Hp, va_D A (emb h)) (X : Cx p s m args meth c RX6 cX6_mended 12 (some .int) o)  (hO : isX6 o emb) (s2 : Int32) (s3 : Int32) (h0 : Hp) {kx : Int32 → Int32 → Option R} (t : R) : ∀ (n : Nat) (s6 : Int32) (s7 : Int32), f_X6_mended_l108 s2 s3 kx n s6 s7 = some t → (∀ (s6 : Int32) (s7 : Int32), kx s6 s7 = some t → J p l e (rmf 1 22) s m args below meth c 0 0 Z o emb A H0 12 126 [(0, .ref (o.1 0)), (2, .int s2), (3, .int s3), (6, .int s6)] [] h0) → J p l e (rmf 1 22) s m args below meth c 0 0 Z o emb A H0 12 108 [(0, .ref (o.1 0)), (2, .int s2), (3, .int s3), (6, .int s6), (7, .int s7)] [] h0 := by
  intro n
  induction n with
  | zero =>
    intro s6 s7 hf hk
    cases hf
  | succ n ih =>
    intro s6 s7 hf hk
    rw [f_X6_mended_l108] at hf
    refine J_iload X 4 dX6_mended_108 rfl ?_
    refine J_iload_n X 1 dX6_mended_110 rfl rfl ?_
    refine J_icmp_ge (tgt := 126) X dX6_mended_111 (by decide) (fun c111 => ?_) (fun c111 => ?_)
    · rw [if_pos c111] at hf
      exact J_sub [0, 1, 2, 3] rfl (hk s6 s7 hf)
    · rw [if_neg c111] at hf
      refine J_iload X 3 dX6_mended_114 rfl ?_
      refine J_iload_n X 2 dX6_mended_116 rfl rfl ?_
      refine J_imul X dX6_mended_117 ?_
      obtain ⟨v14, qv14, hf⟩ := ob hf
      refine J_topi v14 (Option.some.inj qv14) ?_
      refine J_istore X [(6, .int v14), (0, .ref (o.1 0)), (2, .int s2), (3, .int s3), (7, .int s7)] dX6_mended_118 (Nat.le_of_ble_eq_true rfl) rfl ?_
      obtain ⟨v15, qv15, hf⟩ := ob hf
      refine J_iinc X 4 [(7, .int v15), (6, .int v14), (0, .ref (o.1 0)), (2, .int s2), (3, .int s3)] dX6_mended_120 rfl (Option.some.inj qv15) (Nat.le_of_ble_eq_true rfl) rfl ?_
      refine J_goto (tgt := 108) X dX6_mended_123 (by decide) ?_
      exact J_sub [2, 3, 4, 1, 0] rfl (ih v14 v15 hf hk)
set_option maxHeartbeats 4000000 in
set_option maxRecDepth 100000 in
theorem cf_X6_mended_l150 {R : Type} (hA : ∀ h : Hp, va_D A (emb h)) (X : Cx p s m args meth c RX6 cX6_mended 12 (some .int) o)  (hO : isX6 o emb) (s2 : Int32) (s3 : Int32) (s6 : Int32) (s7 : Int32) (s8 : Int32) (s9 : Int32) (s10 : Int32) {kx : Int32 → Hp → Option R} (t : R) : ∀ (n : Nat) (s11 : Int32) (h : Hp), f_X6_mended_l150 s2 s3 s6 s7 s8 s9 s10 kx n s11 h = some t → (∀ (s11 : Int32) (h : Hp), kx s11 h = some t → J p l e (rmf 1 22) s m args below meth c 0 0 Z o emb A H0 12 170 [(0, .ref (o.1 0)), (2, .int s2), (3, .int s3), (6, .int s6), (7, .int s7), (8, .int s8), (9, .int s9), (10, .int s10)] [] h) → J p l e (rmf 1 22) s m args below meth c 0 0 Z o emb A H0 12 150 [(0, .ref (o.1 0)), (2, .int s2), (3, .int s3), (6, .int s6), (7, .int s7), (8, .int s8), (9, .int s9), (10, .int s10), (11, .int s11)] [] h := by
  intro n
  induction n with
  | zero =>
    intro s11 h hf hk
    cases hf
  | succ n ih =>
    intro s11 h hf hk
    rw [f_X6_mended_l150] at hf
    refine J_iload X 8 dX6_mended_150 rfl ?_
    refine J_const X (4 : Int32) dX6_mended_152 (by decide) ?_
    refine J_icmp_ge (tgt := 170) X dX6_mended_153 (by decide) (fun c153 => ?_) (fun c153 => ?_)
    · rw [if_pos c153] at hf
      exact J_sub [0, 1, 2, 3, 4, 5, 6, 7] rfl (hk s11 h hf)
    · rw [if_neg c153] at hf
      refine J_aload_n X 0 dX6_mended_156 rfl rfl ?_
      refine J_get X hO.1 inX6 rfl 13 (Nat.le_of_ble_eq_true rfl) wd_604 rfl (v := .ref (o.1 7)) rfl dX6_mended_157 ?_
      refine J_iload X 8 dX6_mended_160 rfl ?_
      refine J_const X (0 : Int32) dX6_mended_162 (by decide) ?_
      obtain ⟨h18, qh18, hf⟩ := ob hf
      refine J_iast X hO.2.2.2.2.2.2.2.1 (ast_s qh18).1 dX6_mended_163 ?_
      refine J_hp h18 (ast_s qh18).2 ?_
      obtain ⟨v19, qv19, hf⟩ := ob hf
      refine J_iinc X 8 [(11, .int v19), (0, .ref (o.1 0)), (2, .int s2), (3, .int s3), (6, .int s6), (7, .int s7), (8, .int s8), (9, .int s9), (10, .int s10)] dX6_mended_164 rfl (Option.some.inj qv19) (Nat.le_of_ble_eq_true rfl) rfl ?_
      refine J_goto (tgt := 150) X dX6_mended_167 (by decide) ?_
      exact J_sub [1, 2, 3, 4, 5, 6, 7, 8, 0] rfl (ih v19 h18 hf hk)
set_option maxHeartbeats 4000000 in
set_option maxRecDepth 100000 in
theorem cf_X6_mended_l173 {R : Type} (hA : ∀ h : Hp, va_D A (emb h)) (X : Cx p s m args meth c RX6 cX6_mended 12 (some .int) o)  (hO : isX6 o emb) (s2 : Int32) (s3 : Int32) (s6 : Int32) (s7 : Int32) (s8 : Int32) {kx : Int32 → Int32 → Int32 → Hp → Option R} (t : R) : ∀ (n : Nat) (s9 : Int32) (s10 : Int32) (s11 : Int32) (h : Hp), f_X6_mended_l173 s2 s3 s6 s7 s8 kx n s9 s10 s11 h = some t → (∀ (s9 : Int32) (s10 : Int32) (s11 : Int32) (h : Hp), kx s9 s10 s11 h = some t → J p l e (rmf 1 22) s m args below meth c 0 0 Z o emb A H0 12 240 [(0, .ref (o.1 0)), (2, .int s2), (3, .int s3), (6, .int s6), (7, .int s7), (8, .int s8), (10, .int s10)] [] h) → J p l e (rmf 1 22) s m args below meth c 0 0 Z o emb A H0 12 173 [(0, .ref (o.1 0)), (2, .int s2), (3, .int s3), (6, .int s6), (7, .int s7), (8, .int s8), (9, .int s9), (10, .int s10), (11, .int s11)] [] h := by
  intro n
  induction n with
  | zero =>
    intro s9 s10 s11 h hf hk
    cases hf
  | succ n ih =>
    intro s9 s10 s11 h hf hk
    rw [f_X6_mended_l173] at hf
    refine J_iload X 8 dX6_mended_173 rfl ?_
    refine J_iload_n X 1 dX6_mended_175 rfl rfl ?_
    refine J_icmp_ge (tgt := 240) X dX6_mended_176 (by decide) (fun c176 => ?_) (fun c176 => ?_)
    · rw [if_pos c176] at hf
      exact J_sub [0, 1, 2, 3, 4, 5, 7] rfl (hk s9 s10 s11 h hf)
    · rw [if_neg c176] at hf
      refine J_aload_n X 0 dX6_mended_179 rfl rfl ?_
      refine J_get X hO.1 inX6 rfl 13 (Nat.le_of_ble_eq_true rfl) wd_604 rfl (v := .ref (o.1 7)) rfl dX6_mended_180 ?_
      refine J_iload X 6 dX6_mended_183 rfl ?_
      refine J_iload_n X 2 dX6_mended_185 rfl rfl ?_
      obtain ⟨v22, qv22, hf⟩ := ob hf
      refine J_irem X dX6_mended_186 (irm_s qv22).1 ?_
      refine J_topi v22 (irm_s qv22).2 ?_
      refine J_dup2 X dX6_mended_187 rfl rfl ?_
      obtain ⟨v23, qv23, hf⟩ := ob hf
      refine J_iald X hO.2.2.2.2.2.2.2.1 (ald_s qv23).1 dX6_mended_188 ?_
      refine J_topi v23 (ald_s qv23).2 ?_
      refine J_aload_n X 0 dX6_mended_189 rfl rfl ?_
      refine J_get X hO.1 inX6 rfl 12 (Nat.le_of_ble_eq_true rfl) wd_603 rfl (v := .ref (o.1 6)) rfl dX6_mended_190 ?_
      refine J_iload X 8 dX6_mended_193 rfl ?_
      obtain ⟨v24, qv24, hf⟩ := ob hf
      refine J_iald X hO.2.2.2.2.2.2.1 (ald_s qv24).1 dX6_mended_195 ?_
      refine J_topi v24 (ald_s qv24).2 ?_
      refine J_iadd X dX6_mended_196 ?_
      obtain ⟨h25, qh25, hf⟩ := ob hf
      refine J_iast X hO.2.2.2.2.2.2.2.1 (ast_s qh25).1 dX6_mended_197 ?_
      refine J_hp h25 (ast_s qh25).2 ?_
      refine J_aload_n X 0 dX6_mended_198 rfl rfl ?_
      refine J_get X hO.1 inX6 rfl 13 (Nat.le_of_ble_eq_true rfl) wd_604 rfl (v := .ref (o.1 7)) rfl dX6_mended_199 ?_
      refine J_iload X 6 dX6_mended_202 rfl ?_
      refine J_iload_n X 2 dX6_mended_204 rfl rfl ?_
      obtain ⟨v26, qv26, hf⟩ := ob hf
      refine J_irem X dX6_mended_205 (irm_s qv26).1 ?_
      refine J_topi v26 (irm_s qv26).2 ?_
      obtain ⟨v27, qv27, hf⟩ := ob hf
      refine J_iald X hO.2.2.2.2.2.2.2.1 (ald_s qv27).1 dX6_mended_206 ?_
      refine J_topi v27 (ald_s qv27).2 ?_
      refine J_iload X 7 dX6_mended_207 rfl ?_
      obtain ⟨t29, qt29, hf⟩ := ob hf
      have yk28 : J p l e (rmf 1 22) s m args below meth c 0 0 Z o emb A H0 12 226 [(0, .ref (o.1 0)), (2, .int s2), (3, .int s3), (6, .int s6), (7, .int s7), (8, .int s8), (9, .int s9), (11, .int s11)] [.int t29] h25 := by
        refine J_istore X [(10, .int t29), (0, .ref (o.1 0)), (2, .int s2), (3, .int s3), (6, .int s6), (7, .int s7), (8, .int s8), (9, .int s9), (11, .int s11)] dX6_mended_226 (Nat.le_of_ble_eq_true rfl) rfl ?_
        refine J_iload X 7 dX6_mended_228 rfl ?_
        refine J_iload_n X 3 dX6_mended_230 rfl rfl ?_
        obtain ⟨v30, qv30, hf⟩ := ob hf
        refine J_idiv X dX6_mended_231 (idv_s qv30).1 ?_
        refine J_topi v30 (idv_s qv30).2 ?_
        refine J_istore X [(9, .int v30), (10, .int t29), (0, .ref (o.1 0)), (2, .int s2), (3, .int s3), (6, .int s6), (7, .int s7), (8, .int s8), (11, .int s11)] dX6_mended_232 (Nat.le_of_ble_eq_true rfl) rfl ?_
        obtain ⟨v31, qv31, hf⟩ := ob hf
        refine J_iinc X 8 [(11, .int v31), (9, .int v30), (10, .int t29), (0, .ref (o.1 0)), (2, .int s2), (3, .int s3), (6, .int s6), (7, .int s7), (8, .int s8)] dX6_mended_234 rfl (Option.some.inj qv31) (Nat.le_of_ble_eq_true rfl) rfl ?_
        refine J_goto (tgt := 173) X dX6_mended_237 (by decide) ?_
        exact J_sub [3, 4, 5, 6, 7, 8, 1, 2, 0] rfl (ih v30 t29 v31 h25 hf hk)
      clear hf
      have hf := qt29
      clear qt29
      refine J_icmp_le (tgt := 224) X dX6_mended_209 (by decide) (fun c209 => ?_) (fun c209 => ?_)
      · rw [if_pos c209] at hf
        refine J_iload X 7 dX6_mended_224 rfl ?_
        cases hf
        exact J_sub [0, 1, 2, 3, 4, 5, 6, 8] rfl yk28
      · rw [if_neg c209] at hf
        refine J_aload_n X 0 dX6_mended_212 rfl rfl ?_
        refine J_get X hO.1 inX6 rfl 13 (Nat.le_of_ble_eq_true rfl) wd_604 rfl (v := .ref (o.1 7)) rfl dX6_mended_213 ?_
        refine J_iload X 6 dX6_mended_216 rfl ?_
        refine J_iload_n X 2 dX6_mended_218 rfl rfl ?_
        obtain ⟨v32, qv32, hf⟩ := ob hf
        refine J_irem X dX6_mended_219 (irm_s qv32).1 ?_
        refine J_topi v32 (irm_s qv32).2 ?_
        obtain ⟨v33, qv33, hf⟩ := ob hf
        refine J_iald X hO.2.2.2.2.2.2.2.1 (ald_s qv33).1 dX6_mended_220 ?_
        refine J_topi v33 (ald_s qv33).2 ?_
        refine J_goto (tgt := 226) X dX6_mended_221 (by decide) ?_
        cases hf
        exact J_sub [0, 1, 2, 3, 4, 5, 6, 8] rfl yk28
set_option maxHeartbeats 4000000 in
set_option maxRecDepth 100000 in
theorem cf_X6_mended_l133 {R : Type} (hA : ∀ h : Hp, va_D A (emb h)) (X : Cx p s m args meth c RX6 cX6_mended 12 (some .int) o)  (hO : isX6 o emb) (s2 : Int32) (s3 : Int32) (s6 : Int32) {kx : Int32 → Int32 → Hp → Option R} (t : R) : ∀ (n : Nat) (s7 : Int32) (s8 : Int32) (h : Hp), f_X6_mended_l133 s2 s3 s6 kx n s7 s8 h = some t → (∀ (s7 : Int32) (s8 : Int32) (h : Hp), kx s7 s8 h = some t → J p l e (rmf 1 22) s m args below meth c 0 0 Z o emb A H0 12 262 [(7, .int s7)] [] h) → J p l e (rmf 1 22) s m args below meth c 0 0 Z o emb A H0 12 133 [(0, .ref (o.1 0)), (2, .int s2), (3, .int s3), (6, .int s6), (7, .int s7), (8, .int s8)] [] h := by
  intro n
  induction n with
  | zero =>
    intro s7 s8 h hf hk
    cases hf
  | succ n ih =>
    intro s7 s8 h hf hk
    rw [f_X6_mended_l133] at hf
    refine J_iload X 5 dX6_mended_133 rfl ?_
    refine J_iload X 3 dX6_mended_135 rfl ?_
    refine J_icmp_ge (tgt := 262) X dX6_mended_137 (by decide) (fun c137 => ?_) (fun c137 => ?_)
    · rw [if_pos c137] at hf
      exact J_sub [4] rfl (hk s7 s8 h hf)
    · rw [if_neg c137] at hf
      refine J_iload X 5 dX6_mended_140 rfl ?_
      refine J_istore X [(9, .int s8), (0, .ref (o.1 0)), (2, .int s2), (3, .int s3), (6, .int s6), (7, .int s7), (8, .int s8)] dX6_mended_142 (Nat.le_of_ble_eq_true rfl) rfl ?_
      refine J_const X (0 : Int32) dX6_mended_144 (by decide) ?_
      refine J_istore X [(10, .int (0 : Int32)), (9, .int s8), (0, .ref (o.1 0)), (2, .int s2), (3, .int s3), (6, .int s6), (7, .int s7), (8, .int s8)] dX6_mended_145 (Nat.le_of_ble_eq_true rfl) rfl ?_
      refine J_const X (0 : Int32) dX6_mended_147 (by decide) ?_
      refine J_istore X [(11, .int (0 : Int32)), (10, .int (0 : Int32)), (9, .int s8), (0, .ref (o.1 0)), (2, .int s2), (3, .int s3), (6, .int s6), (7, .int s7), (8, .int s8)] dX6_mended_148 (Nat.le_of_ble_eq_true rfl) rfl ?_
      refine J_sub (lo' := [(0, .ref (o.1 0)), (2, .int s2), (3, .int s3), (6, .int s6), (7, .int s7), (8, .int s8), (9, .int s8), (10, .int (0 : Int32)), (11, .int (0 : Int32))]) [3, 4, 5, 6, 7, 8, 2, 1, 0] rfl ?_
      refine cf_X6_mended_l150 hA X  hO s2 s3 s6 s7 s8 s8 (0 : Int32) _ _ (0 : Int32) h hf (fun w20 h21 hf => ?_)
      refine J_const X (0 : Int32) dX6_mended_170 (by decide) ?_
      refine J_istore X [(11, .int (0 : Int32)), (0, .ref (o.1 0)), (2, .int s2), (3, .int s3), (6, .int s6), (7, .int s7), (8, .int s8), (9, .int s8), (10, .int (0 : Int32))] dX6_mended_171 (Nat.le_of_ble_eq_true rfl) rfl ?_
      refine J_sub (lo' := [(0, .ref (o.1 0)), (2, .int s2), (3, .int s3), (6, .int s6), (7, .int s7), (8, .int s8), (9, .int s8), (10, .int (0 : Int32)), (11, .int (0 : Int32))]) [1, 2, 3, 4, 5, 6, 7, 8, 0] rfl ?_
      refine cf_X6_mended_l173 hA X  hO s2 s3 s6 s7 s8 _ _ s8 (0 : Int32) (0 : Int32) h21 hf (fun w35 w34 w36 h37 hf => ?_)
      refine J_iload X 6 dX6_mended_240 rfl ?_
      refine J_iload X 4 dX6_mended_242 rfl ?_
      obtain ⟨t39, qt39, hf⟩ := ob hf
      have yk38 : J p l e (rmf 1 22) s m args below meth c 0 0 Z o emb A H0 12 254 [(0, .ref (o.1 0)), (2, .int s2), (3, .int s3), (6, .int s6), (8, .int s8)] [.int t39] h37 := by
        refine J_istore X [(7, .int t39), (0, .ref (o.1 0)), (2, .int s2), (3, .int s3), (6, .int s6), (8, .int s8)] dX6_mended_254 (Nat.le_of_ble_eq_true rfl) rfl ?_
        obtain ⟨v40, qv40, hf⟩ := ob hf
        refine J_iinc X 5 [(8, .int v40), (7, .int t39), (0, .ref (o.1 0)), (2, .int s2), (3, .int s3), (6, .int s6)] dX6_mended_256 rfl (Option.some.inj qv40) (Nat.le_of_ble_eq_true rfl) rfl ?_
        refine J_goto (tgt := 133) X dX6_mended_259 (by decide) ?_
        exact J_sub [2, 3, 4, 5, 1, 0] rfl (ih t39 v40 h37 hf hk)
      clear hf
      have hf := qt39
      clear qt39
      refine J_icmp_ge (tgt := 252) X dX6_mended_244 (by decide) (fun c244 => ?_) (fun c244 => ?_)
      · rw [if_pos c244] at hf
        refine J_iload X 4 dX6_mended_252 rfl ?_
        cases hf
        exact J_sub [0, 1, 2, 3, 5] rfl yk38
      · rw [if_neg c244] at hf
        refine J_iload X 6 dX6_mended_247 rfl ?_
        refine J_goto (tgt := 254) X dX6_mended_249 (by decide) ?_
        cases hf
        exact J_sub [0, 1, 2, 3, 5] rfl yk38
set_option maxHeartbeats 4000000 in
set_option maxRecDepth 100000 in
theorem c_X6_mended (l : Launch) (o : Om) (emb : Hp → va_W) (A : Nat → Prop) (hA : ∀ h : Hp, va_D A (emb h)) (hO : isX6 o emb) (x1 : Int32) (x2 : Int32) (x3 : Int32) (h : Hp) (r : Int32) (h' : Hp) (hf : f_X6_mended x1 x2 x3 h = some (r, h')) : Ct l o emb A yX6_mended cX6_mended 12 (some .int) 1 22 [.ref (o.1 0), .int x1, .int x2, .int x3] h (some (.int r)) h' := by
  refine Ct.of RX6 rfl (by decide +kernel) hA (Nat.le_of_ble_eq_true rfl) (fun p e s m args below meth c X => ?_)
  refine J_sub (lo' := [(0, .ref (o.1 0)), (1, .int x1), (2, .int x2), (3, .int x3)]) [0, 1, 2, 3] rfl ?_
  rw [f_X6_mended] at hf
  refine J_iload_n X 2 dX6_mended_0 rfl rfl ?_
  refine J_const X (1 : Int32) dX6_mended_1 (by decide) ?_
  refine J_bipush X (8 : Int32) dX6_mended_2 (by decide) ?_
  obtain ⟨v1, qv1, hf⟩ := ob hf
  refine J_callS X (rest := []) (rs := [.int v1]) (c_X6_in l o emb A hA x2 (1 : Int32) (8 : Int32) h v1 qv1) wd_660 wd_661 wd_41 wd_662 hd_X6_in ⟨Nat.le_of_ble_eq_true rfl, Nat.le_of_ble_eq_true rfl⟩ ⟨Nat.zero_le _, Nat.zero_le _⟩ (Nat.le_of_ble_eq_true rfl) dX6_mended_4 rfl rfl ?_
  obtain ⟨t3, qt3, hf⟩ := ob hf
  have yk2 : J p l e (rmf 1 22) s m args below meth c 0 0 (MQ below (WdQ o emb A (some (.int r)) h') args s 0 0 A) o emb A s.heap 12 28 [(0, .ref (o.1 0)), (1, .int x1), (2, .int x2), (3, .int x3)] [.int t3] h := by
    refine J_istore X [(4, .int t3), (0, .ref (o.1 0)), (1, .int x1), (2, .int x2), (3, .int x3)] dX6_mended_28 (Nat.le_of_ble_eq_true rfl) rfl ?_
    refine J_iload_n X 2 dX6_mended_30 rfl rfl ?_
    refine J_istore X [(5, .int x1), (4, .int t3), (0, .ref (o.1 0)), (1, .int x1), (2, .int x2), (3, .int x3)] dX6_mended_31 (Nat.le_of_ble_eq_true rfl) rfl ?_
    refine J_const X (0 : Int32) dX6_mended_33 (by decide) ?_
    refine J_istore X [(6, .int (0 : Int32)), (5, .int x1), (4, .int t3), (0, .ref (o.1 0)), (1, .int x1), (2, .int x2), (3, .int x3)] dX6_mended_34 (Nat.le_of_ble_eq_true rfl) rfl ?_
    refine J_sub (lo' := [(0, .ref (o.1 0)), (2, .int x2), (3, .int x3), (4, .int t3), (5, .int x1), (6, .int (0 : Int32))]) [3, 5, 6, 2, 1, 0] rfl ?_
    refine cf_X6_mended_l36 hA X  hO x2 x3 _ _ t3 x1 (0 : Int32) h hf (fun w10 w11 w12 h13 hf => ?_)
    refine J_iload X 3 dX6_mended_89 rfl ?_
    refine J_if_eq (tgt := 99) X dX6_mended_91 (by decide) (fun c91 => ?_) (fun c91 => ?_)
    · rw [if_pos c91] at hf
      refine J_bipush X (-2 : Int32) dX6_mended_99 (by decide) ?_
      cases hf
      exact J_iret X dX6_mended_101
    · rw [if_neg c91] at hf
      refine J_iload X 4 dX6_mended_94 rfl ?_
      refine J_if_eq (tgt := 102) X dX6_mended_96 (by decide) (fun c96 => ?_) (fun c96 => ?_)
      · rw [if_pos c96] at hf
        refine J_const X (1 : Int32) dX6_mended_102 (by decide) ?_
        refine J_istore X [(6, .int (1 : Int32)), (0, .ref (o.1 0)), (2, .int x2), (3, .int x3), (4, .int w10), (5, .int w11)] dX6_mended_103 (Nat.le_of_ble_eq_true rfl) rfl ?_
        refine J_const X (0 : Int32) dX6_mended_105 (by decide) ?_
        refine J_istore X [(7, .int (0 : Int32)), (6, .int (1 : Int32)), (0, .ref (o.1 0)), (2, .int x2), (3, .int x3), (4, .int w10), (5, .int w11)] dX6_mended_106 (Nat.le_of_ble_eq_true rfl) rfl ?_
        refine J_sub (lo' := [(0, .ref (o.1 0)), (2, .int x2), (3, .int x3), (6, .int (1 : Int32)), (7, .int (0 : Int32))]) [2, 3, 4, 1, 0] rfl ?_
        refine cf_X6_mended_l108 hA X  hO x2 x3 h13 _ _ (1 : Int32) (0 : Int32) hf (fun w16 w17 hf => ?_)
        refine J_ldc X wd_777 dX6_mended_126 ?_
        refine J_istore X [(7, .int (1000000 : Int32)), (0, .ref (o.1 0)), (2, .int x2), (3, .int x3), (6, .int w16)] dX6_mended_128 (Nat.le_of_ble_eq_true rfl) rfl ?_
        refine J_const X (0 : Int32) dX6_mended_130 (by decide) ?_
        refine J_istore X [(8, .int (0 : Int32)), (7, .int (1000000 : Int32)), (0, .ref (o.1 0)), (2, .int x2), (3, .int x3), (6, .int w16)] dX6_mended_131 (Nat.le_of_ble_eq_true rfl) rfl ?_
        refine J_sub (lo' := [(0, .ref (o.1 0)), (2, .int x2), (3, .int x3), (6, .int w16), (7, .int (1000000 : Int32)), (8, .int (0 : Int32))]) [2, 3, 4, 5, 1, 0] rfl ?_
        refine cf_X6_mended_l133 hA X  hO x2 x3 w16 _ _ (1000000 : Int32) (0 : Int32) h13 hf (fun w41 w42 h43 hf => ?_)
        refine J_iload X 0 dX6_mended_262 rfl ?_
        cases hf
        exact J_iret X dX6_mended_264
      · rw [if_neg c96] at hf
        refine J_bipush X (-2 : Int32) dX6_mended_99 (by decide) ?_
        cases hf
        exact J_iret X dX6_mended_101
  clear hf
  have hf := qt3
  clear qt3
  refine J_if_eq (tgt := 27) X dX6_mended_7 (by decide) (fun c7 => ?_) (fun c7 => ?_)
  · rw [if_pos c7] at hf
    refine J_const X (0 : Int32) dX6_mended_27 (by decide) ?_
    cases hf
    exact J_sub [0, 1, 2, 3] rfl yk2
  · rw [if_neg c7] at hf
    refine J_iload_n X 1 dX6_mended_10 rfl rfl ?_
    refine J_if_le (tgt := 27) X dX6_mended_11 (by decide) (fun c11 => ?_) (fun c11 => ?_)
    · rw [if_pos c11] at hf
      refine J_const X (0 : Int32) dX6_mended_27 (by decide) ?_
      cases hf
      exact J_sub [0, 1, 2, 3] rfl yk2
    · rw [if_neg c11] at hf
      refine J_iload_n X 3 dX6_mended_14 rfl rfl ?_
      refine J_const X (1 : Int32) dX6_mended_15 (by decide) ?_
      refine J_const X (4 : Int32) dX6_mended_16 (by decide) ?_
      obtain ⟨v44, qv44, hf⟩ := ob hf
      refine J_callS X (rest := []) (rs := [.int v44]) (c_X6_in l o emb A hA x3 (1 : Int32) (4 : Int32) h v44 qv44) wd_660 wd_661 wd_41 wd_662 hd_X6_in ⟨Nat.le_of_ble_eq_true rfl, Nat.le_of_ble_eq_true rfl⟩ ⟨Nat.zero_le _, Nat.zero_le _⟩ (Nat.le_of_ble_eq_true rfl) dX6_mended_17 rfl rfl ?_
      refine J_if_eq (tgt := 27) X dX6_mended_20 (by decide) (fun c20 => ?_) (fun c20 => ?_)
      · rw [if_pos c20] at hf
        refine J_const X (0 : Int32) dX6_mended_27 (by decide) ?_
        cases hf
        exact J_sub [0, 1, 2, 3] rfl yk2
      · rw [if_neg c20] at hf
        refine J_const X (1 : Int32) dX6_mended_23 (by decide) ?_
        refine J_goto (tgt := 28) X dX6_mended_24 (by decide) ?_
        cases hf
        exact J_sub [0, 1, 2, 3] rfl yk2
theorem hd_X6_lowest : yX6_lowest.cls ≠ "java/lang/invoke/MethodHandle" ∧ yX6_lowest.cls ≠ "java/lang/invoke/VarHandle" ∧ (parseMethodDescriptor yX6_lowest.desc).map (fun d => d.parameters.length) = some 3 := by decide +kernel
set_option maxHeartbeats 4000000 in
set_option maxRecDepth 100000 in
theorem cf_X6_lowest_l6 {R : Type} (hA : ∀ h : Hp, va_D A (emb h)) (X : Cx p s m args meth c RX6 cX6_lowest 11 (some .long) o)   (s0 : Int64) (s2 : Int64) (s4 : Int32) (h0 : Hp) {kx : Int64 → Int64 → Option R} (t : R) : ∀ (n : Nat) (s5 : Int64) (s7 : Int64), f_X6_lowest_l6 s0 s2 s4 kx n s5 s7 = some t → (∀ (s5 : Int64) (s7 : Int64), kx s5 s7 = some t → J p l e (rmf 0 0) s m args below meth c 0 0 Z o emb A H0 11 31 [(0, .long s0), (2, .long s2), (4, .int s4), (5, .long s5)] [] h0) → J p l e (rmf 0 0) s m args below meth c 0 0 Z o emb A H0 11 6 [(0, .long s0), (2, .long s2), (4, .int s4), (5, .long s5), (7, .long s7)] [] h0 := by
  intro n
  induction n with
  | zero =>
    intro s5 s7 hf hk
    cases hf
  | succ n ih =>
    intro s5 s7 hf hk
    rw [f_X6_lowest_l6] at hf
    refine J_lload X 4 dX6_lowest_6 rfl ?_
    refine J_lconst X (0 : Int64) dX6_lowest_8 (by decide) ?_
    refine J_lcmp X dX6_lowest_9 ?_
    refine J_if_eq (tgt := 31) X dX6_lowest_10 (by decide) (fun c10 => ?_) (fun c10 => ?_)
    · rw [if_pos c10] at hf
      exact J_sub [0, 1, 2, 3] rfl (hk s5 s7 hf)
    · rw [if_neg c10] at hf
      refine J_lload X 3 dX6_lowest_13 rfl ?_
      refine J_lload X 4 dX6_lowest_15 rfl ?_
      obtain ⟨v1, qv1, hf⟩ := ob hf
      refine J_lrem X dX6_lowest_17 (lrm_s qv1).1 ?_
      refine J_topl v1 (lrm_s qv1).2 ?_
      refine J_lstore X [(9, .long v1), (0, .long s0), (2, .long s2), (4, .int s4), (5, .long s5), (7, .long s7)] dX6_lowest_18 (Nat.le_of_ble_eq_true rfl) rfl ?_
      refine J_lload X 5 dX6_lowest_20 rfl ?_
      refine J_lstore X [(5, .long s7), (9, .long v1), (0, .long s0), (2, .long s2), (4, .int s4), (7, .long s7)] dX6_lowest_22 (Nat.le_of_ble_eq_true rfl) rfl ?_
      refine J_lload X 1 dX6_lowest_24 rfl ?_
      refine J_lstore X [(7, .long v1), (5, .long s7), (9, .long v1), (0, .long s0), (2, .long s2), (4, .int s4)] dX6_lowest_26 (Nat.le_of_ble_eq_true rfl) rfl ?_
      refine J_goto (tgt := 6) X dX6_lowest_28 (by decide) ?_
      exact J_sub [3, 4, 5, 1, 0] rfl (ih s7 v1 hf hk)
set_option maxHeartbeats 4000000 in
set_option maxRecDepth 100000 in
theorem c_X6_lowest (l : Launch) (o : Om) (emb : Hp → va_W) (A : Nat → Prop) (hA : ∀ h : Hp, va_D A (emb h)) (x1 : Int64) (x2 : Int64) (x3 : Int32) (h : Hp) (r : Int64) (hf : f_X6_lowest x1 x2 x3 = some r) : Ct l o emb A yX6_lowest cX6_lowest 11 (some .long) 0 0 [.long x1, .long x2, .int x3] h (some (.long r)) h := by
  refine Ct.of RX6 rfl (by decide +kernel) hA (Nat.le_of_ble_eq_true rfl) (fun p e s m args below meth c X => ?_)
  refine J_sub (lo' := [(0, .long x1), (2, .long x2), (4, .int x3)]) [0, 1, 2] rfl ?_
  rw [f_X6_lowest] at hf
  refine J_lload_n X 0 dX6_lowest_0 rfl rfl ?_
  refine J_lstore X [(5, .long x1), (0, .long x1), (2, .long x2), (4, .int x3)] dX6_lowest_1 (Nat.le_of_ble_eq_true rfl) rfl ?_
  refine J_lload_n X 2 dX6_lowest_3 rfl rfl ?_
  refine J_lstore X [(7, .long x2), (5, .long x1), (0, .long x1), (2, .long x2), (4, .int x3)] dX6_lowest_4 (Nat.le_of_ble_eq_true rfl) rfl ?_
  refine J_sub (lo' := [(0, .long x1), (2, .long x2), (4, .int x3), (5, .long x1), (7, .long x2)]) [2, 3, 4, 1, 0] rfl ?_
  refine cf_X6_lowest_l6 hA X   x1 x2 x3 h _ _ x1 x2 hf (fun w2 w3 hf => ?_)
  refine J_iload X 2 dX6_lowest_31 rfl ?_
  refine J_if_ne (tgt := 43) X dX6_lowest_33 (by decide) (fun c33 => ?_) (fun c33 => ?_)
  · rw [if_neg c33] at hf
    refine J_lload_n X 1 dX6_lowest_43 rfl rfl ?_
    refine J_lload X 3 dX6_lowest_44 rfl ?_
    obtain ⟨v4, qv4, hf⟩ := ob hf
    refine J_ldiv X dX6_lowest_46 (ldv_s qv4).1 ?_
    refine J_topl v4 (ldv_s qv4).2 ?_
    cases hf
    exact J_lret X dX6_lowest_47
  · rw [if_pos c33] at hf
    refine J_lload_n X 0 dX6_lowest_36 rfl rfl ?_
    refine J_lload X 3 dX6_lowest_37 rfl ?_
    obtain ⟨v5, qv5, hf⟩ := ob hf
    refine J_ldiv X dX6_lowest_39 (ldv_s qv5).1 ?_
    refine J_topl v5 (ldv_s qv5).2 ?_
    refine J_goto (tgt := 47) X dX6_lowest_40 (by decide) ?_
    cases hf
    exact J_lret X dX6_lowest_47
theorem hd_X6_pays : yX6_pays.cls ≠ "java/lang/invoke/MethodHandle" ∧ yX6_pays.cls ≠ "java/lang/invoke/VarHandle" ∧ (parseMethodDescriptor yX6_pays.desc).map (fun d => d.parameters.length) = some 4 := by decide +kernel
set_option maxHeartbeats 4000000 in
set_option maxRecDepth 100000 in
theorem cf_X6_pays_l47 {R : Type} (hA : ∀ h : Hp, va_D A (emb h)) (X : Cx p s m args meth c RX6 cX6_pays 11 (some .long) o)  (hO : isX6 o emb) (s2 : Int32) (s3 : Int32) (s4 : Int32) {kx : Int32 → Int32 → Hp → Option R} (t : R) : ∀ (n : Nat) (s5 : Int32) (s6 : Int32) (h : Hp), f_X6_pays_l47 s2 s3 s4 kx n s5 s6 h = some t → (∀ (s5 : Int32) (s6 : Int32) (h : Hp), kx s5 s6 h = some t → J p l e (rmf 1 30) s m args below meth c 0 0 Z o emb A H0 11 77 [(0, .ref (o.1 0)), (2, .int s2), (3, .int s3), (4, .int s4), (5, .int s5)] [] h) → J p l e (rmf 1 30) s m args below meth c 0 0 Z o emb A H0 11 47 [(0, .ref (o.1 0)), (2, .int s2), (3, .int s3), (4, .int s4), (5, .int s5), (6, .int s6)] [] h := by
  intro n
  induction n with
  | zero =>
    intro s5 s6 h hf hk
    cases hf
  | succ n ih =>
    intro s5 s6 h hf hk
    rw [f_X6_pays_l47] at hf
    refine J_iload X 5 dX6_pays_47 rfl ?_
    refine J_if_lt (tgt := 77) X dX6_pays_49 (by decide) (fun c49 => ?_) (fun c49 => ?_)
    · rw [if_pos c49] at hf
      exact J_sub [0, 1, 2, 3, 4] rfl (hk s5 s6 h hf)
    · rw [if_neg c49] at hf
      refine J_aload_n X 0 dX6_pays_52 rfl rfl ?_
      refine J_get X hO.1 inX6 rfl 12 (Nat.le_of_ble_eq_true rfl) wd_603 rfl (v := .ref (o.1 6)) rfl dX6_pays_53 ?_
      refine J_iload X 5 dX6_pays_56 rfl ?_
      refine J_iload X 4 dX6_pays_58 rfl ?_
      refine J_bipush X (10 : Int32) dX6_pays_60 (by decide) ?_
      refine J_irem X dX6_pays_62 (by decide) ?_
      obtain ⟨h5, qh5, hf⟩ := ob hf
      refine J_iast X hO.2.2.2.2.2.2.1 (ast_s qh5).1 dX6_pays_63 ?_
      refine J_hp h5 (ast_s qh5).2 ?_
      refine J_iload X 4 dX6_pays_64 rfl ?_
      refine J_bipush X (10 : Int32) dX6_pays_66 (by decide) ?_
      refine J_idiv X dX6_pays_68 (by decide) ?_
      obtain ⟨v6, qv6, hf⟩ := ob hf
      refine J_topi v6 (Option.some.inj qv6) ?_
      refine J_istore X [(5, .int v6), (0, .ref (o.1 0)), (2, .int s2), (3, .int s3), (4, .int s4), (6, .int s6)] dX6_pays_69 (Nat.le_of_ble_eq_true rfl) rfl ?_
      obtain ⟨v7, qv7, hf⟩ := ob hf
      refine J_iinc X 5 [(6, .int v7), (5, .int v6), (0, .ref (o.1 0)), (2, .int s2), (3, .int s3), (4, .int s4)] dX6_pays_71 rfl (Option.some.inj qv7) (Nat.le_of_ble_eq_true rfl) rfl ?_
      refine J_goto (tgt := 47) X dX6_pays_74 (by decide) ?_
      exact J_sub [2, 3, 4, 5, 1, 0] rfl (ih v6 v7 h5 hf hk)
set_option maxHeartbeats 4000000 in
set_option maxRecDepth 100000 in
theorem cf_X6_pays_l109 {R : Type} (hA : ∀ h : Hp, va_D A (emb h)) (X : Cx p s m args meth c RX6 cX6_pays 11 (some .long) o)  (hO : isX6 o emb) (s2 : Int32) (s3 : Int32) (s4 : Int32) (s6 : Int64) (s8 : Int32) (h : Hp) {kx : Int32 → Int32 → Option R} (t : R) : ∀ (n : Nat) (s9 : Int32) (s10 : Int32), f_X6_pays_l109 s2 s3 s4 s6 s8 h kx n s9 s10 = some t → (∀ (s9 : Int32) (s10 : Int32), kx s9 s10 = some t → J p l e (rmf 1 30) s m args below meth c 0 0 Z o emb A H0 11 143 [(0, .ref (o.1 0)), (2, .int s2), (3, .int s3), (4, .int s4), (6, .long s6), (8, .int s8), (9, .int s9)] [] h) → J p l e (rmf 1 30) s m args below meth c 0 0 Z o emb A H0 11 109 [(0, .ref (o.1 0)), (2, .int s2), (3, .int s3), (4, .int s4), (6, .long s6), (8, .int s8), (9, .int s9), (10, .int s10)] [] h := by
  intro n
  induction n with
  | zero =>
    intro s9 s10 hf hk
    cases hf
  | succ n ih =>
    intro s9 s10 hf hk
    rw [f_X6_pays_l109] at hf
    refine J_iload X 7 dX6_pays_109 rfl ?_
    refine J_iload_n X 1 dX6_pays_111 rfl rfl ?_
    refine J_icmp_ge (tgt := 143) X dX6_pays_112 (by decide) (fun c112 => ?_) (fun c112 => ?_)
    · rw [if_pos c112] at hf
      exact J_sub [0, 1, 2, 3, 4, 5, 6] rfl (hk s9 s10 hf)
    · rw [if_neg c112] at hf
      refine J_iload X 6 dX6_pays_115 rfl ?_
      refine J_aload_n X 0 dX6_pays_117 rfl rfl ?_
      refine J_get X hO.1 inX6 rfl 12 (Nat.le_of_ble_eq_true rfl) wd_603 rfl (v := .ref (o.1 6)) rfl dX6_pays_118 ?_
      refine J_iload X 7 dX6_pays_121 rfl ?_
      obtain ⟨v12, qv12, hf⟩ := ob hf
      refine J_iald X hO.2.2.2.2.2.2.1 (ald_s qv12).1 dX6_pays_123 ?_
      refine J_topi v12 (ald_s qv12).2 ?_
      refine J_iload X 5 dX6_pays_124 rfl ?_
      obtain ⟨t14, qt14, hf⟩ := ob hf
      have yk13 : J p l e (rmf 1 30) s m args below meth c 0 0 Z o emb A H0 11 134 [(0, .ref (o.1 0)), (2, .int s2), (3, .int s3), (4, .int s4), (6, .long s6), (8, .int s8), (10, .int s10)] [.int t14, .int s9] h := by
        refine J_iadd X dX6_pays_134 ?_
        obtain ⟨v15, qv15, hf⟩ := ob hf
        refine J_topi v15 (Option.some.inj qv15) ?_
        refine J_istore X [(9, .int v15), (0, .ref (o.1 0)), (2, .int s2), (3, .int s3), (4, .int s4), (6, .long s6), (8, .int s8), (10, .int s10)] dX6_pays_135 (Nat.le_of_ble_eq_true rfl) rfl ?_
        obtain ⟨v16, qv16, hf⟩ := ob hf
        refine J_iinc X 7 [(10, .int v16), (9, .int v15), (0, .ref (o.1 0)), (2, .int s2), (3, .int s3), (4, .int s4), (6, .long s6), (8, .int s8)] dX6_pays_137 rfl (Option.some.inj qv16) (Nat.le_of_ble_eq_true rfl) rfl ?_
        refine J_goto (tgt := 109) X dX6_pays_140 (by decide) ?_
        exact J_sub [2, 3, 4, 5, 6, 7, 1, 0] rfl (ih v15 v16 hf hk)
      clear hf
      have hf := qt14
      clear qt14
      refine J_icmp_lt (tgt := 133) X dX6_pays_126 (by decide) (fun c126 => ?_) (fun c126 => ?_)
      · rw [if_pos c126] at hf
        refine J_const X (0 : Int32) dX6_pays_133 (by decide) ?_
        cases hf
        exact J_sub [0, 1, 2, 3, 4, 5, 7] rfl yk13
      · rw [if_neg c126] at hf
        refine J_const X (1 : Int32) dX6_pays_129 (by decide) ?_
        refine J_goto (tgt := 134) X dX6_pays_130 (by decide) ?_
        cases hf
        exact J_sub [0, 1, 2, 3, 4, 5, 7] rfl yk13
set_option maxHeartbeats 4000000 in
set_option maxRecDepth 100000 in
theorem cf_X6_pays_l92 {R : Type} (hA : ∀ h : Hp, va_D A (emb h)) (X : Cx p s m args meth c RX6 cX6_pays 11 (some .long) o)  (hO : isX6 o emb) (s2 : Int32) (s3 : Int32) (s4 : Int32) (h : Hp) {kx : Int64 → Int32 → Option R} (t : R) : ∀ (n : Nat) (s6 : Int64) (s8 : Int32), f_X6_pays_l92 s2 s3 s4 h kx n s6 s8 = some t → (∀ (s6 : Int64) (s8 : Int32), kx s6 s8 = some t → J p l e (rmf 1 30) s m args below meth c 0 0 Z o emb A H0 11 161 [(4, .int s4), (6, .long s6)] [] h) → J p l e (rmf 1 30) s m args below meth c 0 0 Z o emb A H0 11 92 [(0, .ref (o.1 0)), (2, .int s2), (3, .int s3), (4, .int s4), (6, .long s6), (8, .int s8)] [] h := by
  intro n
  induction n with
  | zero =>
    intro s6 s8 hf hk
    cases hf
  | succ n ih =>
    intro s6 s8 hf hk
    rw [f_X6_pays_l92] at hf
    refine J_iload X 5 dX6_pays_92 rfl ?_
    refine J_aload_n X 0 dX6_pays_94 rfl rfl ?_
    refine J_get X hO.1 inX6 rfl 12 (Nat.le_of_ble_eq_true rfl) wd_603 rfl (v := .ref (o.1 6)) rfl dX6_pays_95 ?_
    refine J_iload_n X 2 dX6_pays_98 rfl rfl ?_
    obtain ⟨v11, qv11, hf⟩ := ob hf
    refine J_iald X hO.2.2.2.2.2.2.1 (ald_s qv11).1 dX6_pays_99 ?_
    refine J_topi v11 (ald_s qv11).2 ?_
    refine J_icmp_gt (tgt := 161) X dX6_pays_100 (by decide) (fun c100 => ?_) (fun c100 => ?_)
    · rw [if_pos c100] at hf
      exact J_sub [3, 4] rfl (hk s6 s8 hf)
    · rw [if_neg c100] at hf
      refine J_const X (0 : Int32) dX6_pays_103 (by decide) ?_
      refine J_istore X [(9, .int (0 : Int32)), (0, .ref (o.1 0)), (2, .int s2), (3, .int s3), (4, .int s4), (6, .long s6), (8, .int s8)] dX6_pays_104 (Nat.le_of_ble_eq_true rfl) rfl ?_
      refine J_const X (0 : Int32) dX6_pays_106 (by decide) ?_
      refine J_istore X [(10, .int (0 : Int32)), (9, .int (0 : Int32)), (0, .ref (o.1 0)), (2, .int s2), (3, .int s3), (4, .int s4), (6, .long s6), (8, .int s8)] dX6_pays_107 (Nat.le_of_ble_eq_true rfl) rfl ?_
      refine J_sub (lo' := [(0, .ref (o.1 0)), (2, .int s2), (3, .int s3), (4, .int s4), (6, .long s6), (8, .int s8), (9, .int (0 : Int32)), (10, .int (0 : Int32))]) [2, 3, 4, 5, 6, 7, 1, 0] rfl ?_
      refine cf_X6_pays_l109 hA X  hO s2 s3 s4 s6 s8 h _ _ (0 : Int32) (0 : Int32) hf (fun w17 w18 hf => ?_)
      refine J_lload X 4 dX6_pays_143 rfl ?_
      refine J_sipush X (2520 : Int32) dX6_pays_145 (by decide) ?_
      refine J_iload X 6 dX6_pays_148 rfl ?_
      obtain ⟨v19, qv19, hf⟩ := ob hf
      refine J_idiv X dX6_pays_150 (idv_s qv19).1 ?_
      refine J_topi v19 (idv_s qv19).2 ?_
      refine J_i2l X dX6_pays_151 ?_
      refine J_ladd X dX6_pays_152 ?_
      obtain ⟨v20, qv20, hf⟩ := ob hf
      refine J_topl v20 (Option.some.inj qv20) ?_
      refine J_lstore X [(6, .long v20), (0, .ref (o.1 0)), (2, .int s2), (3, .int s3), (4, .int s4), (8, .int s8), (9, .int w17)] dX6_pays_153 (Nat.le_of_ble_eq_true rfl) rfl ?_
      obtain ⟨v21, qv21, hf⟩ := ob hf
      refine J_iinc X 5 [(8, .int v21), (6, .long v20), (0, .ref (o.1 0)), (2, .int s2), (3, .int s3), (4, .int s4), (9, .int w17)] dX6_pays_155 rfl (Option.some.inj qv21) (Nat.le_of_ble_eq_true rfl) rfl ?_
      refine J_goto (tgt := 92) X dX6_pays_158 (by decide) ?_
      exact J_sub [2, 3, 4, 5, 1, 0] rfl (ih v20 v21 hf hk)
set_option maxHeartbeats 4000000 in
set_option maxRecDepth 100000 in
theorem c_X6_pays (l : Launch) (o : Om) (emb : Hp → va_W) (A : Nat → Prop) (hA : ∀ h : Hp, va_D A (emb h)) (hO : isX6 o emb) (x1 : Int32) (x2 : Int32) (x3 : Int32) (x4 : Int32) (h : Hp) (r : Int64) (h' : Hp) (hf : f_X6_pays x1 x2 x3 x4 h = some (r, h')) : Ct l o emb A yX6_pays cX6_pays 11 (some .long) 1 30 [.ref (o.1 0), .int x1, .int x2, .int x3, .int x4] h (some (.long r)) h' := by
  refine Ct.of RX6 rfl (by decide +kernel) hA (Nat.le_of_ble_eq_true rfl) (fun p e s m args below meth c X => ?_)
  refine J_sub (lo' := [(0, .ref (o.1 0)), (1, .int x1), (2, .int x2), (3, .int x3), (4, .int x4)]) [0, 1, 2, 3, 4] rfl ?_
  rw [f_X6_pays] at hf
  refine J_iload_n X 2 dX6_pays_0 rfl rfl ?_
  refine J_const X (1 : Int32) dX6_pays_1 (by decide) ?_
  refine J_bipush X (9 : Int32) dX6_pays_2 (by decide) ?_
  obtain ⟨v1, qv1, hf⟩ := ob hf
  refine J_callS X (rest := []) (rs := [.int v1]) (c_X6_in l o emb A hA x2 (1 : Int32) (9 : Int32) h v1 qv1) wd_660 wd_661 wd_41 wd_662 hd_X6_in ⟨Nat.le_of_ble_eq_true rfl, Nat.le_of_ble_eq_true rfl⟩ ⟨Nat.zero_le _, Nat.zero_le _⟩ (Nat.le_of_ble_eq_true rfl) dX6_pays_4 rfl rfl ?_
  refine J_if_eq (tgt := 35) X dX6_pays_7 (by decide) (fun c7 => ?_) (fun c7 => ?_)
  · rw [if_pos c7] at hf
    refine J_ldc2 X wd_798 dX6_pays_35 ?_
    cases hf
    exact J_lret X dX6_pays_38
  · rw [if_neg c7] at hf
    refine J_iload_n X 1 dX6_pays_10 rfl rfl ?_
    refine J_if_lt (tgt := 35) X dX6_pays_11 (by decide) (fun c11 => ?_) (fun c11 => ?_)
    · rw [if_pos c11] at hf
      refine J_ldc2 X wd_798 dX6_pays_35 ?_
      cases hf
      exact J_lret X dX6_pays_38
    · rw [if_neg c11] at hf
      refine J_iload_n X 3 dX6_pays_14 rfl rfl ?_
      refine J_const X (0 : Int32) dX6_pays_15 (by decide) ?_
      refine J_iload_n X 2 dX6_pays_16 rfl rfl ?_
      refine J_const X (1 : Int32) dX6_pays_17 (by decide) ?_
      refine J_isub X dX6_pays_18 ?_
      obtain ⟨v2, qv2, hf⟩ := ob hf
      refine J_callS X (rest := []) (rs := [.int v2]) (c_X6_in l o emb A hA x3 (0 : Int32) (x2 - (1 : Int32)) h v2 qv2) wd_660 wd_661 wd_41 wd_662 hd_X6_in ⟨Nat.le_of_ble_eq_true rfl, Nat.le_of_ble_eq_true rfl⟩ ⟨Nat.zero_le _, Nat.zero_le _⟩ (Nat.le_of_ble_eq_true rfl) dX6_pays_19 rfl rfl ?_
      refine J_if_eq (tgt := 35) X dX6_pays_22 (by decide) (fun c22 => ?_) (fun c22 => ?_)
      · rw [if_pos c22] at hf
        refine J_ldc2 X wd_798 dX6_pays_35 ?_
        cases hf
        exact J_lret X dX6_pays_38
      · rw [if_neg c22] at hf
        refine J_iload X 4 dX6_pays_25 rfl ?_
        refine J_const X (0 : Int32) dX6_pays_27 (by decide) ?_
        refine J_const X (1 : Int32) dX6_pays_28 (by decide) ?_
        obtain ⟨v3, qv3, hf⟩ := ob hf
        refine J_callS X (rest := []) (rs := [.int v3]) (c_X6_in l o emb A hA x4 (0 : Int32) (1 : Int32) h v3 qv3) wd_660 wd_661 wd_41 wd_662 hd_X6_in ⟨Nat.le_of_ble_eq_true rfl, Nat.le_of_ble_eq_true rfl⟩ ⟨Nat.zero_le _, Nat.zero_le _⟩ (Nat.le_of_ble_eq_true rfl) dX6_pays_29 rfl rfl ?_
        refine J_if_ne (tgt := 39) X dX6_pays_32 (by decide) (fun c32 => ?_) (fun c32 => ?_)
        · rw [if_neg c32] at hf
          refine J_iload_n X 1 dX6_pays_39 rfl rfl ?_
          refine J_istore X [(5, .int x1), (0, .ref (o.1 0)), (1, .int x1), (2, .int x2), (3, .int x3), (4, .int x4)] dX6_pays_40 (Nat.le_of_ble_eq_true rfl) rfl ?_
          refine J_iload_n X 3 dX6_pays_42 rfl rfl ?_
          refine J_const X (1 : Int32) dX6_pays_43 (by decide) ?_
          refine J_isub X dX6_pays_44 ?_
          obtain ⟨v4, qv4, hf⟩ := ob hf
          refine J_topi v4 (Option.some.inj qv4) ?_
          refine J_istore X [(6, .int v4), (5, .int x1), (0, .ref (o.1 0)), (1, .int x1), (2, .int x2), (3, .int x3), (4, .int x4)] dX6_pays_45 (Nat.le_of_ble_eq_true rfl) rfl ?_
          refine J_sub (lo' := [(0, .ref (o.1 0)), (2, .int x2), (3, .int x3), (4, .int x4), (5, .int x1), (6, .int v4)]) [2, 4, 5, 6, 1, 0] rfl ?_
          refine cf_X6_pays_l47 hA X  hO x2 x3 x4 _ _ x1 v4 h hf (fun w8 w9 h10 hf => ?_)
          refine J_iload X 4 dX6_pays_77 rfl ?_
          refine J_if_eq (tgt := 86) X dX6_pays_79 (by decide) (fun c79 => ?_) (fun c79 => ?_)
          · rw [if_pos c79] at hf
            refine J_lconst X (0 : Int64) dX6_pays_86 (by decide) ?_
            refine J_lstore X [(6, .long (0 : Int64)), (0, .ref (o.1 0)), (2, .int x2), (3, .int x3), (4, .int x4), (5, .int w8)] dX6_pays_87 (Nat.le_of_ble_eq_true rfl) rfl ?_
            refine J_const X (1 : Int32) dX6_pays_89 (by decide) ?_
            refine J_istore X [(8, .int (1 : Int32)), (6, .long (0 : Int64)), (0, .ref (o.1 0)), (2, .int x2), (3, .int x3), (4, .int x4), (5, .int w8)] dX6_pays_90 (Nat.le_of_ble_eq_true rfl) rfl ?_
            refine J_sub (lo' := [(0, .ref (o.1 0)), (2, .int x2), (3, .int x3), (4, .int x4), (6, .long (0 : Int64)), (8, .int (1 : Int32))]) [2, 3, 4, 5, 1, 0] rfl ?_
            refine cf_X6_pays_l92 hA X  hO x2 x3 x4 h10 _ _ (0 : Int64) (1 : Int32) hf (fun w22 w23 hf => ?_)
            refine J_lload X 1 dX6_pays_161 rfl ?_
            refine J_ldc2 X wd_799 dX6_pays_163 ?_
            refine J_iload X 0 dX6_pays_166 rfl ?_
            obtain ⟨v24, qv24, hf⟩ := ob hf
            refine J_callS X (rest := []) (rs := [.long v24]) (c_X6_lowest l o emb A hA w22 (2520 : Int64) x4 h10 v24 qv24) wd_800 wd_801 wd_41 wd_802 hd_X6_lowest ⟨Nat.le_of_ble_eq_true rfl, Nat.le_of_ble_eq_true rfl⟩ ⟨Nat.zero_le _, Nat.zero_le _⟩ (Nat.le_of_ble_eq_true rfl) dX6_pays_168 rfl rfl ?_
            cases hf
            exact J_lret X dX6_pays_171
          · rw [if_neg c79] at hf
            refine J_ldc2 X wd_798 dX6_pays_82 ?_
            cases hf
            exact J_lret X dX6_pays_85
        · rw [if_pos c32] at hf
          refine J_ldc2 X wd_798 dX6_pays_35 ?_
          cases hf
          exact J_lret X dX6_pays_38
theorem hd_X6_seen : yX6_seen.cls ≠ "java/lang/invoke/MethodHandle" ∧ yX6_seen.cls ≠ "java/lang/invoke/VarHandle" ∧ (parseMethodDescriptor yX6_seen.desc).map (fun d => d.parameters.length) = some 3 := by decide +kernel
set_option maxHeartbeats 4000000 in
set_option maxRecDepth 100000 in
theorem c_X6_seen (l : Launch) (o : Om) (emb : Hp → va_W) (A : Nat → Prop) (hA : ∀ h : Hp, va_D A (emb h)) (hO : isX6 o emb) (x1 : Int32) (x2 : Int32) (x3 : Int32) (h : Hp) (r : Int32) (h' : Hp) (hf : f_X6_seen x1 x2 x3 h = some (r, h')) : Ct l o emb A yX6_seen cX6_seen 4 (some .int) 1 22 [.ref (o.1 0), .int x1, .int x2, .int x3] h (some (.int r)) h' := by
  refine Ct.of RX6 rfl (by decide +kernel) hA (Nat.le_of_ble_eq_true rfl) (fun p e s m args below meth c X => ?_)
  refine J_sub (lo' := [(0, .ref (o.1 0)), (1, .int x1), (2, .int x2), (3, .int x3)]) [0, 1, 2, 3] rfl ?_
  rw [f_X6_seen] at hf
  refine J_iload_n X 2 dX6_seen_0 rfl rfl ?_
  refine J_const X (0 : Int32) dX6_seen_1 (by decide) ?_
  refine J_bipush X (20 : Int32) dX6_seen_2 (by decide) ?_
  obtain ⟨v1, qv1, hf⟩ := ob hf
  refine J_callS X (rest := []) (rs := [.int v1]) (c_X6_in l o emb A hA x2 (0 : Int32) (20 : Int32) h v1 qv1) wd_660 wd_661 wd_41 wd_662 hd_X6_in ⟨Nat.le_of_ble_eq_true rfl, Nat.le_of_ble_eq_true rfl⟩ ⟨Nat.zero_le _, Nat.zero_le _⟩ (Nat.le_of_ble_eq_true rfl) dX6_seen_4 rfl rfl ?_
  refine J_if_eq (tgt := 21) X dX6_seen_7 (by decide) (fun c7 => ?_) (fun c7 => ?_)
  · rw [if_pos c7] at hf
    refine J_bipush X (-2 : Int32) dX6_seen_21 (by decide) ?_
    cases hf
    exact J_iret X dX6_seen_23
  · rw [if_neg c7] at hf
    refine J_iload_n X 3 dX6_seen_10 rfl rfl ?_
    refine J_const X (0 : Int32) dX6_seen_11 (by decide) ?_
    refine J_sipush X (9999 : Int32) dX6_seen_12 (by decide) ?_
    obtain ⟨v2, qv2, hf⟩ := ob hf
    refine J_callS X (rest := []) (rs := [.int v2]) (c_X6_in l o emb A hA x3 (0 : Int32) (9999 : Int32) h v2 qv2) wd_660 wd_661 wd_41 wd_662 hd_X6_in ⟨Nat.le_of_ble_eq_true rfl, Nat.le_of_ble_eq_true rfl⟩ ⟨Nat.zero_le _, Nat.zero_le _⟩ (Nat.le_of_ble_eq_true rfl) dX6_seen_15 rfl rfl ?_
    refine J_if_ne (tgt := 24) X dX6_seen_18 (by decide) (fun c18 => ?_) (fun c18 => ?_)
    · rw [if_neg c18] at hf
      refine J_aload_n X 0 dX6_seen_24 rfl rfl ?_
      refine J_get X hO.1 inX6 rfl 3 (Nat.le_of_ble_eq_true rfl) wd_594 rfl (v := .int (h.1 0 3)) rfl dX6_seen_25 ?_
      refine J_bipush X (8 : Int32) dX6_seen_28 (by decide) ?_
      refine J_icmp_ne (tgt := 36) X dX6_seen_30 (by decide) (fun c30 => ?_) (fun c30 => ?_)
      · rw [if_neg c30] at hf
        refine J_aload_n X 0 dX6_seen_36 rfl rfl ?_
        refine J_get X hO.1 inX6 rfl 4 (Nat.le_of_ble_eq_true rfl) wd_595 rfl (v := .ref (o.1 3)) rfl dX6_seen_37 ?_
        refine J_const X (3 : Int32) dX6_seen_40 (by decide) ?_
        refine J_aload_n X 0 dX6_seen_41 rfl rfl ?_
        refine J_get X hO.1 inX6 rfl 3 (Nat.le_of_ble_eq_true rfl) wd_594 rfl (v := .int (h.1 0 3)) rfl dX6_seen_42 ?_
        refine J_imul X dX6_seen_45 ?_
        refine J_iload_n X 1 dX6_seen_46 rfl rfl ?_
        obtain ⟨t4, qt4, hf⟩ := ob hf
        have yk3 : J p l e (rmf 1 22) s m args below meth c 0 0 (MQ below (WdQ o emb A (some (.int r)) h') args s 0 0 A) o emb A s.heap 4 55 [(0, .ref (o.1 0)), (2, .int x2), (3, .int x3)] [.int t4, .int ((3 : Int32) * (h.1 0 3)), .ref (o.1 3)] h := by
          obtain ⟨h5, qh5, hf⟩ := ob hf
          refine J_iast X hO.2.2.2.1 (ast_s qh5).1 dX6_seen_55 ?_
          refine J_hp h5 (ast_s qh5).2 ?_
          refine J_aload_n X 0 dX6_seen_56 rfl rfl ?_
          refine J_get X hO.1 inX6 rfl 4 (Nat.le_of_ble_eq_true rfl) wd_595 rfl (v := .ref (o.1 3)) rfl dX6_seen_57 ?_
          refine J_const X (3 : Int32) dX6_seen_60 (by decide) ?_
          refine J_aload_n X 0 dX6_seen_61 rfl rfl ?_
          refine J_get X hO.1 inX6 rfl 3 (Nat.le_of_ble_eq_true rfl) wd_594 rfl (v := .int (h5.1 0 3)) rfl dX6_seen_62 ?_
          refine J_imul X dX6_seen_65 ?_
          refine J_const X (1 : Int32) dX6_seen_66 (by decide) ?_
          refine J_iadd X dX6_seen_67 ?_
          refine J_iload_n X 1 dX6_seen_68 rfl rfl ?_
          obtain ⟨h6, qh6, hf⟩ := ob hf
          refine J_iast X hO.2.2.2.1 (ast_s qh6).1 dX6_seen_69 ?_
          refine J_hp h6 (ast_s qh6).2 ?_
          refine J_aload_n X 0 dX6_seen_70 rfl rfl ?_
          refine J_get X hO.1 inX6 rfl 4 (Nat.le_of_ble_eq_true rfl) wd_595 rfl (v := .ref (o.1 3)) rfl dX6_seen_71 ?_
          refine J_const X (3 : Int32) dX6_seen_74 (by decide) ?_
          refine J_aload_n X 0 dX6_seen_75 rfl rfl ?_
          refine J_get X hO.1 inX6 rfl 3 (Nat.le_of_ble_eq_true rfl) wd_594 rfl (v := .int (h6.1 0 3)) rfl dX6_seen_76 ?_
          refine J_imul X dX6_seen_79 ?_
          refine J_const X (2 : Int32) dX6_seen_80 (by decide) ?_
          refine J_iadd X dX6_seen_81 ?_
          refine J_iload_n X 2 dX6_seen_82 rfl rfl ?_
          obtain ⟨h7, qh7, hf⟩ := ob hf
          refine J_iast X hO.2.2.2.1 (ast_s qh7).1 dX6_seen_83 ?_
          refine J_hp h7 (ast_s qh7).2 ?_
          refine J_aload_n X 0 dX6_seen_84 rfl rfl ?_
          refine J_dup X dX6_seen_85 rfl ?_
          refine J_get X hO.1 inX6 rfl 3 (Nat.le_of_ble_eq_true rfl) wd_594 rfl (v := .int (h7.1 0 3)) rfl dX6_seen_86 ?_
          refine J_const X (1 : Int32) dX6_seen_89 (by decide) ?_
          refine J_iadd X dX6_seen_90 ?_
          obtain ⟨h8, qh8, hf⟩ := ob hf
          refine J_put X hO.1 inX6 tyX6 tyX6_ok nmX6 rfl 3 (Nat.le_of_ble_eq_true rfl) (by decide) wd_594 rfl rfl (ty := .int) (by decide +kernel) rfl rfl (Nat.le_of_ble_eq_true rfl) dX6_seen_91 ?_
          refine J_hp h8 (Option.some.inj qh8) ?_
          refine J_aload_n X 0 dX6_seen_94 rfl rfl ?_
          refine J_get X hO.1 inX6 rfl 3 (Nat.le_of_ble_eq_true rfl) wd_594 rfl (v := .int (h8.1 0 3)) rfl dX6_seen_95 ?_
          cases hf
          exact J_iret X dX6_seen_98
        clear hf
        have hf := qt4
        clear qt4
        refine J_if_eq (tgt := 54) X dX6_seen_47 (by decide) (fun c47 => ?_) (fun c47 => ?_)
        · rw [if_pos c47] at hf
          refine J_const X (0 : Int32) dX6_seen_54 (by decide) ?_
          cases hf
          exact J_sub [0, 2, 3] rfl yk3
        · rw [if_neg c47] at hf
          refine J_const X (1 : Int32) dX6_seen_50 (by decide) ?_
          refine J_goto (tgt := 55) X dX6_seen_51 (by decide) ?_
          cases hf
          exact J_sub [0, 2, 3] rfl yk3
      · rw [if_pos c30] at hf
        refine J_bipush X (-4 : Int32) dX6_seen_33 (by decide) ?_
        cases hf
        exact J_iret X dX6_seen_35
    · rw [if_pos c18] at hf
      refine J_bipush X (-2 : Int32) dX6_seen_21 (by decide) ?_
      cases hf
      exact J_iret X dX6_seen_23
theorem hd_X6_forget : yX6_forget.cls ≠ "java/lang/invoke/MethodHandle" ∧ yX6_forget.cls ≠ "java/lang/invoke/VarHandle" ∧ (parseMethodDescriptor yX6_forget.desc).map (fun d => d.parameters.length) = some 0 := by decide +kernel
set_option maxHeartbeats 4000000 in
set_option maxRecDepth 100000 in
theorem c_X6_forget (l : Launch) (o : Om) (emb : Hp → va_W) (A : Nat → Prop) (hA : ∀ h : Hp, va_D A (emb h)) (hO : isX6 o emb) (h : Hp) (r : Int32) (h' : Hp) (hf : f_X6_forget h = some (r, h')) : Ct l o emb A yX6_forget cX6_forget 2 (some .int) 0 0 [.ref (o.1 0)] h (some (.int r)) h' := by
  refine Ct.of RX6 rfl (by decide +kernel) hA (Nat.le_of_ble_eq_true rfl) (fun p e s m args below meth c X => ?_)
  refine J_sub (lo' := [(0, .ref (o.1 0))]) [0] rfl ?_
  rw [f_X6_forget] at hf
  refine J_aload_n X 0 dX6_forget_0 rfl rfl ?_
  refine J_get X hO.1 inX6 rfl 3 (Nat.le_of_ble_eq_true rfl) wd_594 rfl (v := .int (h.1 0 3)) rfl dX6_forget_1 ?_
  obtain ⟨v1, qv1, hf⟩ := ob hf
  refine J_topi v1 (Option.some.inj qv1) ?_
  refine J_istore_n X [(1, .int v1), (0, .ref (o.1 0))] dX6_forget_4 rfl (Nat.le_of_ble_eq_true rfl) rfl ?_
  refine J_aload_n X 1 dX6_forget_5 rfl rfl ?_
  refine J_const X (0 : Int32) dX6_forget_6 (by decide) ?_
  obtain ⟨h2, qh2, hf⟩ := ob hf
  refine J_put X hO.1 inX6 tyX6 tyX6_ok nmX6 rfl 3 (Nat.le_of_ble_eq_true rfl) (by decide) wd_594 rfl rfl (ty := .int) (by decide +kernel) rfl rfl (Nat.le_of_ble_eq_true rfl) dX6_forget_7 ?_
  refine J_hp h2 (Option.some.inj qh2) ?_
  refine J_iload_n X 0 dX6_forget_10 rfl rfl ?_
  cases hf
  exact J_iret X dX6_forget_11
theorem hd_X6_tellOf : yX6_tellOf.cls ≠ "java/lang/invoke/MethodHandle" ∧ yX6_tellOf.cls ≠ "java/lang/invoke/VarHandle" ∧ (parseMethodDescriptor yX6_tellOf.desc).map (fun d => d.parameters.length) = some 3 := by decide +kernel
set_option maxHeartbeats 4000000 in
set_option maxRecDepth 100000 in
theorem c_X6_tellOf (l : Launch) (o : Om) (emb : Hp → va_W) (A : Nat → Prop) (hA : ∀ h : Hp, va_D A (emb h)) (x1 : Int32) (x2 : Int32) (x3 : Int32) (h : Hp) (r : Int32) (hf : f_X6_tellOf x1 x2 x3 = some r) : Ct l o emb A yX6_tellOf cX6_tellOf 5 (some .int) 0 0 [.int x1, .int x2, .int x3] h (some (.int r)) h := by
  refine Ct.of RX6 rfl (by decide +kernel) hA (Nat.le_of_ble_eq_true rfl) (fun p e s m args below meth c X => ?_)
  refine J_sub (lo' := [(0, .int x1), (1, .int x2), (2, .int x3)]) [0, 1, 2] rfl ?_
  rw [f_X6_tellOf] at hf
  refine J_iload_n X 0 dX6_tellOf_0 rfl rfl ?_
  refine J_bipush X (10 : Int32) dX6_tellOf_1 (by decide) ?_
  refine J_idiv X dX6_tellOf_3 (by decide) ?_
  refine J_bipush X (10 : Int32) dX6_tellOf_4 (by decide) ?_
  refine J_irem X dX6_tellOf_6 (by decide) ?_
  obtain ⟨v1, qv1, hf⟩ := ob hf
  refine J_topi v1 (Option.some.inj qv1) ?_
  refine J_istore_n X [(3, .int v1), (0, .int x1), (1, .int x2), (2, .int x3)] dX6_tellOf_7 rfl (Nat.le_of_ble_eq_true rfl) rfl ?_
  refine J_iload_n X 1 dX6_tellOf_8 rfl rfl ?_
  refine J_bipush X (10 : Int32) dX6_tellOf_9 (by decide) ?_
  refine J_irem X dX6_tellOf_11 (by decide) ?_
  obtain ⟨v2, qv2, hf⟩ := ob hf
  refine J_topi v2 (Option.some.inj qv2) ?_
  refine J_istore X [(4, .int v2), (3, .int v1), (0, .int x1), (1, .int x2), (2, .int x3)] dX6_tellOf_12 (Nat.le_of_ble_eq_true rfl) rfl ?_
  refine J_iload_n X 3 dX6_tellOf_14 rfl rfl ?_
  refine J_const X (1 : Int32) dX6_tellOf_15 (by decide) ?_
  refine J_icmp_ne (tgt := 28) X dX6_tellOf_16 (by decide) (fun c16 => ?_) (fun c16 => ?_)
  · rw [if_neg c16] at hf
    refine J_iload_n X 2 dX6_tellOf_28 rfl rfl ?_
    refine J_bipush X (100 : Int32) dX6_tellOf_29 (by decide) ?_
    refine J_idiv X dX6_tellOf_31 (by decide) ?_
    refine J_iload_n X 4 dX6_tellOf_32 rfl rfl ?_
    refine J_iload_n X 1 dX6_tellOf_33 rfl rfl ?_
    refine J_const X (2 : Int32) dX6_tellOf_34 (by decide) ?_
    refine J_iload X 0 dX6_tellOf_35 rfl ?_
    refine J_imul X dX6_tellOf_37 ?_
    refine J_iadd X dX6_tellOf_38 ?_
    refine J_imul X dX6_tellOf_39 ?_
    refine J_iadd X dX6_tellOf_40 ?_
    cases hf
    exact J_iret X dX6_tellOf_41
  · rw [if_pos c16] at hf
    refine J_iload_n X 4 dX6_tellOf_19 rfl rfl ?_
    refine J_iload_n X 1 dX6_tellOf_20 rfl rfl ?_
    refine J_iload X 0 dX6_tellOf_21 rfl ?_
    refine J_iadd X dX6_tellOf_23 ?_
    refine J_imul X dX6_tellOf_24 ?_
    refine J_goto (tgt := 41) X dX6_tellOf_25 (by decide) ?_
    cases hf
    exact J_iret X dX6_tellOf_41
theorem hd_X6_isFit : yX6_isFit.cls ≠ "java/lang/invoke/MethodHandle" ∧ yX6_isFit.cls ≠ "java/lang/invoke/VarHandle" ∧ (parseMethodDescriptor yX6_isFit.desc).map (fun d => d.parameters.length) = some 1 := by decide +kernel
set_option maxHeartbeats 4000000 in
set_option maxRecDepth 100000 in
theorem cf_X6_isFit_l4 {R : Type} (hA : ∀ h : Hp, va_D A (emb h)) (X : Cx p s m args meth c RX6 cX6_isFit 4 (some .boolean) o)  (hO : isX6 o emb) (s1 : Int32) (h : Hp) {kx : Int32 → Int32 → Option R} (t : R) : ∀ (n : Nat) (s2 : Int32) (s3 : Int32), f_X6_isFit_l4 s1 h kx n s2 s3 = some t → (∀ (s2 : Int32) (s3 : Int32), kx s2 s3 = some t → J p l e (rmf 1 24) s m args below meth c 0 0 Z o emb A H0 4 63 [(2, .int s2)] [] h) → J p l e (rmf 1 24) s m args below meth c 0 0 Z o emb A H0 4 4 [(0, .ref (o.1 0)), (1, .int s1), (2, .int s2), (3, .int s3)] [] h := by
  intro n
  induction n with
  | zero =>
    intro s2 s3 hf hk
    cases hf
  | succ n ih =>
    intro s2 s3 hf hk
    rw [f_X6_isFit_l4] at hf
    refine J_iload_n X 3 dX6_isFit_4 rfl rfl ?_
    refine J_aload_n X 0 dX6_isFit_5 rfl rfl ?_
    refine J_get X hO.1 inX6 rfl 3 (Nat.le_of_ble_eq_true rfl) wd_594 rfl (v := .int (h.1 0 3)) rfl dX6_isFit_6 ?_
    refine J_icmp_ge (tgt := 63) X dX6_isFit_9 (by decide) (fun c9 => ?_) (fun c9 => ?_)
    · rw [if_pos c9] at hf
      exact J_sub [2] rfl (hk s2 s3 hf)
    · rw [if_neg c9] at hf
      refine J_iload_n X 2 dX6_isFit_12 rfl rfl ?_
      refine J_if_eq (tgt := 63) X dX6_isFit_13 (by decide) (fun c13 => ?_) (fun c13 => ?_)
      · rw [if_pos c13] at hf
        exact J_sub [2] rfl (hk s2 s3 hf)
      · rw [if_neg c13] at hf
        refine J_iload_n X 1 dX6_isFit_16 rfl rfl ?_
        refine J_aload_n X 0 dX6_isFit_17 rfl rfl ?_
        refine J_get X hO.1 inX6 rfl 4 (Nat.le_of_ble_eq_true rfl) wd_595 rfl (v := .ref (o.1 3)) rfl dX6_isFit_18 ?_
        refine J_const X (3 : Int32) dX6_isFit_21 (by decide) ?_
        refine J_iload_n X 3 dX6_isFit_22 rfl rfl ?_
        refine J_imul X dX6_isFit_23 ?_
        obtain ⟨v1, qv1, hf⟩ := ob hf
        refine J_iald X hO.2.2.2.1 (ald_s qv1).1 dX6_isFit_24 ?_
        refine J_topi v1 (ald_s qv1).2 ?_
        refine J_aload_n X 0 dX6_isFit_25 rfl rfl ?_
        refine J_get X hO.1 inX6 rfl 4 (Nat.le_of_ble_eq_true rfl) wd_595 rfl (v := .ref (o.1 3)) rfl dX6_isFit_26 ?_
        refine J_const X (3 : Int32) dX6_isFit_29 (by decide) ?_
        refine J_iload_n X 3 dX6_isFit_30 rfl rfl ?_
        refine J_imul X dX6_isFit_31 ?_
        refine J_const X (1 : Int32) dX6_isFit_32 (by decide) ?_
        refine J_iadd X dX6_isFit_33 ?_
        obtain ⟨v2, qv2, hf⟩ := ob hf
        refine J_iald X hO.2.2.2.1 (ald_s qv2).1 dX6_isFit_34 ?_
        refine J_topi v2 (ald_s qv2).2 ?_
        obtain ⟨v3, qv3, hf⟩ := ob hf
        refine J_callS X (rest := []) (rs := [.int v3]) (c_X6_tellOf l o emb A hA s1 v1 v2 h v3 qv3) wd_819 wd_820 wd_41 wd_821 hd_X6_tellOf ⟨Nat.le_of_ble_eq_true rfl, Nat.le_of_ble_eq_true rfl⟩ ⟨Nat.zero_le _, Nat.zero_le _⟩ (Nat.le_of_ble_eq_true rfl) dX6_isFit_35 rfl rfl ?_
        refine J_aload_n X 0 dX6_isFit_38 rfl rfl ?_
        refine J_get X hO.1 inX6 rfl 4 (Nat.le_of_ble_eq_true rfl) wd_595 rfl (v := .ref (o.1 3)) rfl dX6_isFit_39 ?_
        refine J_const X (3 : Int32) dX6_isFit_42 (by decide) ?_
        refine J_iload_n X 3 dX6_isFit_43 rfl rfl ?_
        refine J_imul X dX6_isFit_44 ?_
        refine J_const X (2 : Int32) dX6_isFit_45 (by decide) ?_
        refine J_iadd X dX6_isFit_46 ?_
        obtain ⟨v4, qv4, hf⟩ := ob hf
        refine J_iald X hO.2.2.2.1 (ald_s qv4).1 dX6_isFit_47 ?_
        refine J_topi v4 (ald_s qv4).2 ?_
        obtain ⟨t6, qt6, hf⟩ := ob hf
        have yk5 : J p l e (rmf 1 24) s m args below meth c 0 0 Z o emb A H0 4 56 [(0, .ref (o.1 0)), (1, .int s1), (3, .int s3)] [.int t6] h := by
          refine J_istore_n X [(2, .int t6), (0, .ref (o.1 0)), (1, .int s1), (3, .int s3)] dX6_isFit_56 rfl (Nat.le_of_ble_eq_true rfl) rfl ?_
          obtain ⟨v7, qv7, hf⟩ := ob hf
          refine J_iinc X 3 [(3, .int v7), (2, .int t6), (0, .ref (o.1 0)), (1, .int s1)] dX6_isFit_57 rfl (Option.some.inj qv7) (Nat.le_of_ble_eq_true rfl) rfl ?_
          refine J_goto (tgt := 4) X dX6_isFit_60 (by decide) ?_
          exact J_sub [2, 3, 1, 0] rfl (ih t6 v7 hf hk)
        clear hf
        have hf := qt6
        clear qt6
        refine J_icmp_ne (tgt := 55) X dX6_isFit_48 (by decide) (fun c48 => ?_) (fun c48 => ?_)
        · rw [if_neg c48] at hf
          refine J_const X (0 : Int32) dX6_isFit_55 (by decide) ?_
          cases hf
          exact J_sub [0, 1, 3] rfl yk5
        · rw [if_pos c48] at hf
          refine J_const X (1 : Int32) dX6_isFit_51 (by decide) ?_
          refine J_goto (tgt := 56) X dX6_isFit_52 (by decide) ?_
          cases hf
          exact J_sub [0, 1, 3] rfl yk5
set_option maxHeartbeats 4000000 in
set_option maxRecDepth 100000 in
theorem c_X6_isFit (l : Launch) (o : Om) (emb : Hp → va_W) (A : Nat → Prop) (hA : ∀ h : Hp, va_D A (emb h)) (hO : isX6 o emb) (x1 : Int32) (h : Hp) (r : Int32) (hf : f_X6_isFit x1 h = some r) : Ct l o emb A yX6_isFit cX6_isFit 4 (some .boolean) 1 24 [.ref (o.1 0), .int x1] h (some (.int r)) h := by
  refine Ct.of RX6 rfl (by decide +kernel) hA (Nat.le_of_ble_eq_true rfl) (fun p e s m args below meth c X => ?_)
  refine J_sub (lo' := [(0, .ref (o.1 0)), (1, .int x1)]) [0, 1] rfl ?_
  rw [f_X6_isFit] at hf
  refine J_const X (1 : Int32) dX6_isFit_0 (by decide) ?_
  refine J_istore_n X [(2, .int (1 : Int32)), (0, .ref (o.1 0)), (1, .int x1)] dX6_isFit_1 rfl (Nat.le_of_ble_eq_true rfl) rfl ?_
  refine J_const X (0 : Int32) dX6_isFit_2 (by decide) ?_
  refine J_istore_n X [(3, .int (0 : Int32)), (2, .int (1 : Int32)), (0, .ref (o.1 0)), (1, .int x1)] dX6_isFit_3 rfl (Nat.le_of_ble_eq_true rfl) rfl ?_
  refine J_sub (lo' := [(0, .ref (o.1 0)), (1, .int x1), (2, .int (1 : Int32)), (3, .int (0 : Int32))]) [2, 3, 1, 0] rfl ?_
  refine cf_X6_isFit_l4 hA X  hO x1 h _ _ (1 : Int32) (0 : Int32) hf (fun w8 w9 hf => ?_)
  refine J_iload_n X 0 dX6_isFit_63 rfl rfl ?_
  obtain ⟨v10, qv10, hf⟩ := ob hf
  have zv10 := (zck_s qv10).1
  have yv10 := (zck_s qv10).2
  rw [yv10] at zv10
  refine J_topi v10 yv10 ?_
  cases hf
  exact J_zret X zv10 dX6_isFit_64
theorem hd_X6_who : yX6_who.cls ≠ "java/lang/invoke/MethodHandle" ∧ yX6_who.cls ≠ "java/lang/invoke/VarHandle" ∧ (parseMethodDescriptor yX6_who.desc).map (fun d => d.parameters.length) = some 1 := by decide +kernel
set_option maxHeartbeats 4000000 in
set_option maxRecDepth 100000 in
theorem cf_X6_who_l4 (hA : ∀ h : Hp, va_D A (emb h)) (X : Cx p s m args meth c RX6 cX6_who 4 (some .int) o)  (hO : isX6 o emb) (s1 : Int32) (h : Hp) {kx : Int32 → Int32 → Option Int32} (r : Int32) : ∀ (n : Nat) (s2 : Int32) (s3 : Int32), f_X6_who_l4 s1 h kx n s2 s3 = some r → (∀ (s2 : Int32) (s3 : Int32), kx s2 s3 = some r → J p l e (rmf 2 47) s m args below meth c 0 0 (MQ below (WdQ o emb A (some (.int r)) h) args s 0 0 A) o emb A s.heap 4 35 [(1, .int s1), (2, .int s2)] [] h) → J p l e (rmf 2 47) s m args below meth c 0 0 (MQ below (WdQ o emb A (some (.int r)) h) args s 0 0 A) o emb A s.heap 4 4 [(0, .ref (o.1 0)), (1, .int s1), (2, .int s2), (3, .int s3)] [] h := by
  intro n
  induction n with
  | zero =>
    intro s2 s3 hf hk
    cases hf
  | succ n ih =>
    intro s2 s3 hf hk
    rw [f_X6_who_l4] at hf
    refine J_iload_n X 3 dX6_who_4 rfl rfl ?_
    refine J_sipush X (1000 : Int32) dX6_who_5 (by decide) ?_
    refine J_icmp_ge (tgt := 35) X dX6_who_8 (by decide) (fun c8 => ?_) (fun c8 => ?_)
    · rw [if_pos c8] at hf
      exact J_sub [1, 2] rfl (hk s2 s3 hf)
    · rw [if_neg c8] at hf
      refine J_aload_n X 0 dX6_who_11 rfl rfl ?_
      refine J_iload_n X 3 dX6_who_12 rfl rfl ?_
      obtain ⟨v1, qv1, hf⟩ := ob hf
      refine J_callV X (rest := []) (rs := [.int v1]) (c_X6_isFit l o emb A hA hO s3 h v1 qv1) hO.1 rfl rfl wd_815 wd_817 wd_32 wd_41 wd_818 hd_X6_isFit ⟨Nat.le_of_ble_eq_true rfl, Nat.le_of_ble_eq_true rfl⟩ ⟨Nat.zero_le _, Nat.zero_le _⟩ (Nat.le_of_ble_eq_true rfl) dX6_who_13 rfl rfl ?_
      refine J_if_eq (tgt := 29) X dX6_who_16 (by decide) (fun c16 => ?_) (fun c16 => ?_)
      · rw [if_pos c16] at hf
        obtain ⟨v2, qv2, hf⟩ := ob hf
        refine J_iinc X 3 [(3, .int v2), (0, .ref (o.1 0)), (1, .int s1), (2, .int s2)] dX6_who_29 rfl (Option.some.inj qv2) (Nat.le_of_ble_eq_true rfl) rfl ?_
        refine J_goto (tgt := 4) X dX6_who_32 (by decide) ?_
        exact J_sub [1, 2, 3, 0] rfl (ih s2 v2 hf hk)
      · rw [if_neg c16] at hf
        refine J_iload_n X 2 dX6_who_19 rfl rfl ?_
        refine J_iload_n X 1 dX6_who_20 rfl rfl ?_
        refine J_icmp_ne (tgt := 26) X dX6_who_21 (by decide) (fun c21 => ?_) (fun c21 => ?_)
        · rw [if_neg c21] at hf
          obtain ⟨v3, qv3, hf⟩ := ob hf
          refine J_iinc X 2 [(2, .int v3), (0, .ref (o.1 0)), (1, .int s1), (3, .int s3)] dX6_who_26 rfl (Option.some.inj qv3) (Nat.le_of_ble_eq_true rfl) rfl ?_
          obtain ⟨v4, qv4, hf⟩ := ob hf
          refine J_iinc X 3 [(3, .int v4), (2, .int v3), (0, .ref (o.1 0)), (1, .int s1)] dX6_who_29 rfl (Option.some.inj qv4) (Nat.le_of_ble_eq_true rfl) rfl ?_
          refine J_goto (tgt := 4) X dX6_who_32 (by decide) ?_
          exact J_sub [2, 3, 1, 0] rfl (ih v3 v4 hf hk)
        · rw [if_pos c21] at hf
          refine J_iload_n X 3 dX6_who_24 rfl rfl ?_
          cases hf
          exact J_iret X dX6_who_25
set_option maxHeartbeats 4000000 in
set_option maxRecDepth 100000 in
theorem c_X6_who (l : Launch) (o : Om) (emb : Hp → va_W) (A : Nat → Prop) (hA : ∀ h : Hp, va_D A (emb h)) (hO : isX6 o emb) (x1 : Int32) (h : Hp) (r : Int32) (hf : f_X6_who x1 h = some r) : Ct l o emb A yX6_who cX6_who 4 (some .int) 2 47 [.ref (o.1 0), .int x1] h (some (.int r)) h := by
  refine Ct.of RX6 rfl (by decide +kernel) hA (Nat.le_of_ble_eq_true rfl) (fun p e s m args below meth c X => ?_)
  refine J_sub (lo' := [(0, .ref (o.1 0)), (1, .int x1)]) [0, 1] rfl ?_
  rw [f_X6_who] at hf
  refine J_const X (0 : Int32) dX6_who_0 (by decide) ?_
  refine J_istore_n X [(2, .int (0 : Int32)), (0, .ref (o.1 0)), (1, .int x1)] dX6_who_1 rfl (Nat.le_of_ble_eq_true rfl) rfl ?_
  refine J_const X (0 : Int32) dX6_who_2 (by decide) ?_
  refine J_istore_n X [(3, .int (0 : Int32)), (2, .int (0 : Int32)), (0, .ref (o.1 0)), (1, .int x1)] dX6_who_3 rfl (Nat.le_of_ble_eq_true rfl) rfl ?_
  refine J_sub (lo' := [(0, .ref (o.1 0)), (1, .int x1), (2, .int (0 : Int32)), (3, .int (0 : Int32))]) [2, 3, 1, 0] rfl ?_
  refine cf_X6_who_l4 hA X  hO x1 h r _ (0 : Int32) (0 : Int32) hf (fun w5 w6 hf => ?_)
  refine J_iload_n X 0 dX6_who_35 rfl rfl ?_
  refine J_const X (-1 : Int32) dX6_who_36 (by decide) ?_
  refine J_icmp_ne (tgt := 44) X dX6_who_37 (by decide) (fun c37 => ?_) (fun c37 => ?_)
  · rw [if_neg c37] at hf
    refine J_bipush X (-6 : Int32) dX6_who_44 (by decide) ?_
    cases hf
    exact J_iret X dX6_who_46
  · rw [if_pos c37] at hf
    refine J_iload_n X 1 dX6_who_40 rfl rfl ?_
    refine J_goto (tgt := 46) X dX6_who_41 (by decide) ?_
    cases hf
    exact J_iret X dX6_who_46
theorem hd_X6_ask : yX6_ask.cls ≠ "java/lang/invoke/MethodHandle" ∧ yX6_ask.cls ≠ "java/lang/invoke/VarHandle" ∧ (parseMethodDescriptor yX6_ask.desc).map (fun d => d.parameters.length) = some 1 := by decide +kernel
set_option maxHeartbeats 4000000 in
set_option maxRecDepth 100000 in
theorem cf_X6_ask_l16 {R : Type} (hA : ∀ h : Hp, va_D A (emb h)) (X : Cx p s m args meth c RX6 cX6_ask 9 (some .int) o)  (hO : isX6 o emb) (s1 : Int32) {kx : Int32 → Int32 → Hp → Option R} (t : R) : ∀ (n : Nat) (s2 : Int32) (s3 : Int32) (h : Hp), f_X6_ask_l16 s1 kx n s2 s3 h = some t → (∀ (s2 : Int32) (s3 : Int32) (h : Hp), kx s2 s3 h = some t → J p l e (rmf 2 47) s m args below meth c 0 0 Z o emb A H0 9 47 [(0, .ref (o.1 0)), (1, .int s1), (2, .int s2)] [] h) → J p l e (rmf 2 47) s m args below meth c 0 0 Z o emb A H0 9 16 [(0, .ref (o.1 0)), (1, .int s1), (2, .int s2), (3, .int s3)] [] h := by
  intro n
  induction n with
  | zero =>
    intro s2 s3 h hf hk
    cases hf
  | succ n ih =>
    intro s2 s3 h hf hk
    rw [f_X6_ask_l16] at hf
    refine J_iload_n X 3 dX6_ask_16 rfl rfl ?_
    refine J_sipush X (1000 : Int32) dX6_ask_17 (by decide) ?_
    refine J_icmp_ge (tgt := 47) X dX6_ask_20 (by decide) (fun c20 => ?_) (fun c20 => ?_)
    · rw [if_pos c20] at hf
      exact J_sub [0, 1, 2] rfl (hk s2 s3 h hf)
    · rw [if_neg c20] at hf
      refine J_aload_n X 0 dX6_ask_23 rfl rfl ?_
      refine J_iload_n X 3 dX6_ask_24 rfl rfl ?_
      obtain ⟨v2, qv2, hf⟩ := ob hf
      refine J_callV X (rest := []) (rs := [.int v2]) (c_X6_isFit l o emb A hA hO s3 h v2 qv2) hO.1 rfl rfl wd_815 wd_817 wd_32 wd_41 wd_818 hd_X6_isFit ⟨Nat.le_of_ble_eq_true rfl, Nat.le_of_ble_eq_true rfl⟩ ⟨Nat.zero_le _, Nat.zero_le _⟩ (Nat.le_of_ble_eq_true rfl) dX6_ask_25 rfl rfl ?_
      refine J_if_eq (tgt := 41) X dX6_ask_28 (by decide) (fun c28 => ?_) (fun c28 => ?_)
      · rw [if_pos c28] at hf
        obtain ⟨v3, qv3, hf⟩ := ob hf
        refine J_iinc X 3 [(3, .int v3), (0, .ref (o.1 0)), (1, .int s1), (2, .int s2)] dX6_ask_41 rfl (Option.some.inj qv3) (Nat.le_of_ble_eq_true rfl) rfl ?_
        refine J_goto (tgt := 16) X dX6_ask_44 (by decide) ?_
        exact J_sub [1, 2, 3, 0] rfl (ih s2 v3 h hf hk)
      · rw [if_neg c28] at hf
        refine J_aload_n X 0 dX6_ask_31 rfl rfl ?_
        refine J_get X hO.1 inX6 rfl 15 (Nat.le_of_ble_eq_true rfl) wd_606 rfl (v := .ref (o.1 9)) rfl dX6_ask_32 ?_
        refine J_iload_n X 2 dX6_ask_35 rfl rfl ?_
        refine J_iload_n X 3 dX6_ask_36 rfl rfl ?_
        obtain ⟨h4, qh4, hf⟩ := ob hf
        refine J_iast X hO.2.2.2.2.2.2.2.2.2.1 (ast_s qh4).1 dX6_ask_37 ?_
        refine J_hp h4 (ast_s qh4).2 ?_
        obtain ⟨v5, qv5, hf⟩ := ob hf
        refine J_iinc X 2 [(2, .int v5), (0, .ref (o.1 0)), (1, .int s1), (3, .int s3)] dX6_ask_38 rfl (Option.some.inj qv5) (Nat.le_of_ble_eq_true rfl) rfl ?_
        obtain ⟨v6, qv6, hf⟩ := ob hf
        refine J_iinc X 3 [(3, .int v6), (2, .int v5), (0, .ref (o.1 0)), (1, .int s1)] dX6_ask_41 rfl (Option.some.inj qv6) (Nat.le_of_ble_eq_true rfl) rfl ?_
        refine J_goto (tgt := 16) X dX6_ask_44 (by decide) ?_
        exact J_sub [2, 3, 1, 0] rfl (ih v5 v6 h4 hf hk)
set_option maxHeartbeats 4000000 in
set_option maxRecDepth 100000 in
theorem cf_X6_ask_l74 {R : Type} (hA : ∀ h : Hp, va_D A (emb h)) (X : Cx p s m args meth c RX6 cX6_ask 9 (some .int) o)  (hO : isX6 o emb) (s1 : Int32) (s2 : Int32) (s3 : Int32) (s4 : Int32) (s5 : Int32) (s6 : Int32) {kx : Int32 → Hp → Option R} (t : R) : ∀ (n : Nat) (s7 : Int32) (h : Hp), f_X6_ask_l74 s1 s2 s3 s4 s5 s6 kx n s7 h = some t → (∀ (s7 : Int32) (h : Hp), kx s7 h = some t → J p l e (rmf 2 47) s m args below meth c 0 0 Z o emb A H0 9 96 [(0, .ref (o.1 0)), (1, .int s1), (2, .int s2), (3, .int s3), (4, .int s4), (5, .int s5), (6, .int s6)] [] h) → J p l e (rmf 2 47) s m args below meth c 0 0 Z o emb A H0 9 74 [(0, .ref (o.1 0)), (1, .int s1), (2, .int s2), (3, .int s3), (4, .int s4), (5, .int s5), (6, .int s6), (7, .int s7)] [] h := by
  intro n
  induction n with
  | zero =>
    intro s7 h hf hk
    cases hf
  | succ n ih =>
    intro s7 h hf hk
    rw [f_X6_ask_l74] at hf
    refine J_iload X 7 dX6_ask_74 rfl ?_
    refine J_sipush X (600 : Int32) dX6_ask_76 (by decide) ?_
    refine J_icmp_ge (tgt := 96) X dX6_ask_79 (by decide) (fun c79 => ?_) (fun c79 => ?_)
    · rw [if_pos c79] at hf
      exact J_sub [0, 1, 2, 3, 4, 5, 6] rfl (hk s7 h hf)
    · rw [if_neg c79] at hf
      refine J_aload_n X 0 dX6_ask_82 rfl rfl ?_
      refine J_get X hO.1 inX6 rfl 14 (Nat.le_of_ble_eq_true rfl) wd_605 rfl (v := .ref (o.1 8)) rfl dX6_ask_83 ?_
      refine J_iload X 7 dX6_ask_86 rfl ?_
      refine J_const X (0 : Int32) dX6_ask_88 (by decide) ?_
      obtain ⟨h10, qh10, hf⟩ := ob hf
      refine J_iast X hO.2.2.2.2.2.2.2.2.1 (ast_s qh10).1 dX6_ask_89 ?_
      refine J_hp h10 (ast_s qh10).2 ?_
      obtain ⟨v11, qv11, hf⟩ := ob hf
      refine J_iinc X 7 [(7, .int v11), (0, .ref (o.1 0)), (1, .int s1), (2, .int s2), (3, .int s3), (4, .int s4), (5, .int s5), (6, .int s6)] dX6_ask_90 rfl (Option.some.inj qv11) (Nat.le_of_ble_eq_true rfl) rfl ?_
      refine J_goto (tgt := 74) X dX6_ask_93 (by decide) ?_
      exact J_sub [1, 2, 3, 4, 5, 6, 7, 0] rfl (ih v11 h10 hf hk)
set_option maxHeartbeats 4000000 in
set_option maxRecDepth 100000 in
theorem cf_X6_ask_l99 {R : Type} (hA : ∀ h : Hp, va_D A (emb h)) (X : Cx p s m args meth c RX6 cX6_ask 9 (some .int) o)  (hO : isX6 o emb) (s1 : Int32) (s2 : Int32) (s3 : Int32) (s4 : Int32) (s5 : Int32) {kx : Int32 → Int32 → Hp → Option R} (t : R) : ∀ (n : Nat) (s6 : Int32) (s7 : Int32) (h : Hp), f_X6_ask_l99 s1 s2 s3 s4 s5 kx n s6 s7 h = some t → (∀ (s6 : Int32) (s7 : Int32) (h : Hp), kx s6 s7 h = some t → J p l e (rmf 2 47) s m args below meth c 0 0 Z o emb A H0 9 168 [(0, .ref (o.1 0)), (1, .int s1), (2, .int s2), (3, .int s3), (4, .int s4), (5, .int s5), (6, .int s6)] [] h) → J p l e (rmf 2 47) s m args below meth c 0 0 Z o emb A H0 9 99 [(0, .ref (o.1 0)), (1, .int s1), (2, .int s2), (3, .int s3), (4, .int s4), (5, .int s5), (6, .int s6), (7, .int s7)] [] h := by
  intro n
  induction n with
  | zero =>
    intro s6 s7 h hf hk
    cases hf
  | succ n ih =>
    intro s6 s7 h hf hk
    rw [f_X6_ask_l99] at hf
    refine J_iload X 7 dX6_ask_99 rfl ?_
    refine J_iload_n X 2 dX6_ask_101 rfl rfl ?_
    refine J_icmp_ge (tgt := 168) X dX6_ask_102 (by decide) (fun c102 => ?_) (fun c102 => ?_)
    · rw [if_pos c102] at hf
      exact J_sub [0, 1, 2, 3, 4, 5, 6] rfl (hk s6 s7 h hf)
    · rw [if_neg c102] at hf
      refine J_aload_n X 0 dX6_ask_105 rfl rfl ?_
      refine J_get X hO.1 inX6 rfl 15 (Nat.le_of_ble_eq_true rfl) wd_606 rfl (v := .ref (o.1 9)) rfl dX6_ask_106 ?_
      refine J_iload X 7 dX6_ask_109 rfl ?_
      obtain ⟨v14, qv14, hf⟩ := ob hf
      refine J_iald X hO.2.2.2.2.2.2.2.2.2.1 (ald_s qv14).1 dX6_ask_111 ?_
      refine J_topi v14 (ald_s qv14).2 ?_
      refine J_iload X 5 dX6_ask_112 rfl ?_
      refine J_const X (2 : Int32) dX6_ask_114 (by decide) ?_
      refine J_irem X dX6_ask_115 (by decide) ?_
      refine J_iload X 5 dX6_ask_116 rfl ?_
      refine J_const X (2 : Int32) dX6_ask_118 (by decide) ?_
      refine J_idiv X dX6_ask_119 (by decide) ?_
      obtain ⟨v15, qv15, hf⟩ := ob hf
      refine J_callS X (rest := []) (rs := [.int v15]) (c_X6_tellOf l o emb A hA v14 (irem s5 (2 : Int32)) (s5 / (2 : Int32)) h v15 qv15) wd_819 wd_820 wd_41 wd_821 hd_X6_tellOf ⟨Nat.le_of_ble_eq_true rfl, Nat.le_of_ble_eq_true rfl⟩ ⟨Nat.zero_le _, Nat.zero_le _⟩ (Nat.le_of_ble_eq_true rfl) dX6_ask_120 rfl rfl ?_
      refine J_istore X [(8, .int v15), (0, .ref (o.1 0)), (1, .int s1), (2, .int s2), (3, .int s3), (4, .int s4), (5, .int s5), (6, .int s6), (7, .int s7)] dX6_ask_123 (Nat.le_of_ble_eq_true rfl) rfl ?_
      refine J_aload_n X 1 dX6_ask_125 rfl rfl ?_
      refine J_get X hO.1 inX6 rfl 14 (Nat.le_of_ble_eq_true rfl) wd_605 rfl (v := .ref (o.1 8)) rfl dX6_ask_126 ?_
      refine J_iload X 0 dX6_ask_129 rfl ?_
      refine J_dup2 X dX6_ask_131 rfl rfl ?_
      obtain ⟨v16, qv16, hf⟩ := ob hf
      refine J_iald X hO.2.2.2.2.2.2.2.2.1 (ald_s qv16).1 dX6_ask_132 ?_
      refine J_topi v16 (ald_s qv16).2 ?_
      refine J_const X (1 : Int32) dX6_ask_133 (by decide) ?_
      refine J_iadd X dX6_ask_134 ?_
      obtain ⟨h17, qh17, hf⟩ := ob hf
      refine J_iast X hO.2.2.2.2.2.2.2.2.1 (ast_s qh17).1 dX6_ask_135 ?_
      refine J_hp h17 (ast_s qh17).2 ?_
      refine J_aload_n X 1 dX6_ask_136 rfl rfl ?_
      refine J_get X hO.1 inX6 rfl 14 (Nat.le_of_ble_eq_true rfl) wd_605 rfl (v := .ref (o.1 8)) rfl dX6_ask_137 ?_
      refine J_iload X 0 dX6_ask_140 rfl ?_
      obtain ⟨v18, qv18, hf⟩ := ob hf
      refine J_iald X hO.2.2.2.2.2.2.2.2.1 (ald_s qv18).1 dX6_ask_142 ?_
      refine J_topi v18 (ald_s qv18).2 ?_
      refine J_iload X 7 dX6_ask_143 rfl ?_
      obtain ⟨t20, qt20, hf⟩ := ob hf
      have yk19 : J p l e (rmf 2 47) s m args below meth c 0 0 Z o emb A H0 9 160 [(0, .ref (o.1 0)), (1, .int s1), (2, .int s2), (3, .int s3), (4, .int s4), (5, .int s5), (7, .int s7)] [.int t20] h17 := by
        refine J_istore X [(6, .int t20), (0, .ref (o.1 0)), (1, .int s1), (2, .int s2), (3, .int s3), (4, .int s4), (5, .int s5), (7, .int s7)] dX6_ask_160 (Nat.le_of_ble_eq_true rfl) rfl ?_
        obtain ⟨v21, qv21, hf⟩ := ob hf
        refine J_iinc X 7 [(7, .int v21), (6, .int t20), (0, .ref (o.1 0)), (1, .int s1), (2, .int s2), (3, .int s3), (4, .int s4), (5, .int s5)] dX6_ask_162 rfl (Option.some.inj qv21) (Nat.le_of_ble_eq_true rfl) rfl ?_
        refine J_goto (tgt := 99) X dX6_ask_165 (by decide) ?_
        exact J_sub [2, 3, 4, 5, 6, 7, 1, 0] rfl (ih t20 v21 h17 hf hk)
      clear hf
      have hf := qt20
      clear qt20
      refine J_icmp_le (tgt := 158) X dX6_ask_145 (by decide) (fun c145 => ?_) (fun c145 => ?_)
      · rw [if_pos c145] at hf
        refine J_iload X 7 dX6_ask_158 rfl ?_
        cases hf
        exact J_sub [1, 2, 3, 4, 5, 6, 8] rfl yk19
      · rw [if_neg c145] at hf
        refine J_aload_n X 1 dX6_ask_148 rfl rfl ?_
        refine J_get X hO.1 inX6 rfl 14 (Nat.le_of_ble_eq_true rfl) wd_605 rfl (v := .ref (o.1 8)) rfl dX6_ask_149 ?_
        refine J_iload X 0 dX6_ask_152 rfl ?_
        obtain ⟨v22, qv22, hf⟩ := ob hf
        refine J_iald X hO.2.2.2.2.2.2.2.2.1 (ald_s qv22).1 dX6_ask_154 ?_
        refine J_topi v22 (ald_s qv22).2 ?_
        refine J_goto (tgt := 160) X dX6_ask_155 (by decide) ?_
        cases hf
        exact J_sub [1, 2, 3, 4, 5, 6, 8] rfl yk19
set_option maxHeartbeats 4000000 in
set_option maxRecDepth 100000 in
theorem cf_X6_ask_l57 {R : Type} (hA : ∀ h : Hp, va_D A (emb h)) (X : Cx p s m args meth c RX6 cX6_ask 9 (some .int) o)  (hO : isX6 o emb) (s1 : Int32) (s2 : Int32) {kx : Int32 → Int32 → Int32 → Hp → Option R} (t : R) : ∀ (n : Nat) (s3 : Int32) (s4 : Int32) (s5 : Int32) (h : Hp), f_X6_ask_l57 s1 s2 kx n s3 s4 s5 h = some t → (∀ (s3 : Int32) (s4 : Int32) (s5 : Int32) (h : Hp), kx s3 s4 s5 h = some t → J p l e (rmf 2 47) s m args below meth c 0 0 Z o emb A H0 9 214 [(1, .int s1), (3, .int s3), (4, .int s4)] [] h) → J p l e (rmf 2 47) s m args below meth c 0 0 Z o emb A H0 9 57 [(0, .ref (o.1 0)), (1, .int s1), (2, .int s2), (3, .int s3), (4, .int s4), (5, .int s5)] [] h := by
  intro n
  induction n with
  | zero =>
    intro s3 s4 s5 h hf hk
    cases hf
  | succ n ih =>
    intro s3 s4 s5 h hf hk
    rw [f_X6_ask_l57] at hf
    refine J_iload X 5 dX6_ask_57 rfl ?_
    refine J_bipush X (42 : Int32) dX6_ask_59 (by decide) ?_
    refine J_icmp_ge (tgt := 214) X dX6_ask_61 (by decide) (fun c61 => ?_) (fun c61 => ?_)
    · rw [if_pos c61] at hf
      exact J_sub [1, 3, 4] rfl (hk s3 s4 s5 h hf)
    · rw [if_neg c61] at hf
      refine J_iload_n X 2 dX6_ask_64 rfl rfl ?_
      refine J_if_le (tgt := 214) X dX6_ask_65 (by decide) (fun c65 => ?_) (fun c65 => ?_)
      · rw [if_pos c65] at hf
        exact J_sub [1, 3, 4] rfl (hk s3 s4 s5 h hf)
      · rw [if_neg c65] at hf
        refine J_const X (0 : Int32) dX6_ask_68 (by decide) ?_
        refine J_istore X [(6, .int (0 : Int32)), (0, .ref (o.1 0)), (1, .int s1), (2, .int s2), (3, .int s3), (4, .int s4), (5, .int s5)] dX6_ask_69 (Nat.le_of_ble_eq_true rfl) rfl ?_
        refine J_const X (0 : Int32) dX6_ask_71 (by decide) ?_
        refine J_istore X [(7, .int (0 : Int32)), (6, .int (0 : Int32)), (0, .ref (o.1 0)), (1, .int s1), (2, .int s2), (3, .int s3), (4, .int s4), (5, .int s5)] dX6_ask_72 (Nat.le_of_ble_eq_true rfl) rfl ?_
        refine J_sub (lo' := [(0, .ref (o.1 0)), (1, .int s1), (2, .int s2), (3, .int s3), (4, .int s4), (5, .int s5), (6, .int (0 : Int32)), (7, .int (0 : Int32))]) [2, 3, 4, 5, 6, 7, 1, 0] rfl ?_
        refine cf_X6_ask_l74 hA X  hO s1 s2 s3 s4 s5 (0 : Int32) _ _ (0 : Int32) h hf (fun w12 h13 hf => ?_)
        refine J_const X (0 : Int32) dX6_ask_96 (by decide) ?_
        refine J_istore X [(7, .int (0 : Int32)), (0, .ref (o.1 0)), (1, .int s1), (2, .int s2), (3, .int s3), (4, .int s4), (5, .int s5), (6, .int (0 : Int32))] dX6_ask_97 (Nat.le_of_ble_eq_true rfl) rfl ?_
        refine J_sub (lo' := [(0, .ref (o.1 0)), (1, .int s1), (2, .int s2), (3, .int s3), (4, .int s4), (5, .int s5), (6, .int (0 : Int32)), (7, .int (0 : Int32))]) [1, 2, 3, 4, 5, 6, 7, 0] rfl ?_
        refine cf_X6_ask_l99 hA X  hO s1 s2 s3 s4 s5 _ _ (0 : Int32) (0 : Int32) h13 hf (fun w23 w24 h25 hf => ?_)
        refine J_iload X 6 dX6_ask_168 rfl ?_
        refine J_iload X 4 dX6_ask_170 rfl ?_
        obtain ⟨t27, qt27, hf⟩ := ob hf
        have yk26 : J p l e (rmf 2 47) s m args below meth c 0 0 Z o emb A H0 9 191 [(0, .ref (o.1 0)), (1, .int s1), (2, .int s2), (4, .int s4), (5, .int s5), (6, .int w23)] [.int t27] h25 := by
          refine J_istore_n X [(3, .int t27), (0, .ref (o.1 0)), (1, .int s1), (2, .int s2), (4, .int s4), (5, .int s5), (6, .int w23)] dX6_ask_191 rfl (Nat.le_of_ble_eq_true rfl) rfl ?_
          refine J_iload X 6 dX6_ask_192 rfl ?_
          refine J_iload X 4 dX6_ask_194 rfl ?_
          obtain ⟨t29, qt29, hf⟩ := ob hf
          have yk28 : J p l e (rmf 2 47) s m args below meth c 0 0 Z o emb A H0 9 206 [(0, .ref (o.1 0)), (1, .int s1), (2, .int s2), (3, .int t27), (5, .int s5)] [.int t29] h25 := by
            refine J_istore X [(4, .int t29), (0, .ref (o.1 0)), (1, .int s1), (2, .int s2), (3, .int t27), (5, .int s5)] dX6_ask_206 (Nat.le_of_ble_eq_true rfl) rfl ?_
            obtain ⟨v30, qv30, hf⟩ := ob hf
            refine J_iinc X 5 [(5, .int v30), (4, .int t29), (0, .ref (o.1 0)), (1, .int s1), (2, .int s2), (3, .int t27)] dX6_ask_208 rfl (Option.some.inj qv30) (Nat.le_of_ble_eq_true rfl) rfl ?_
            refine J_goto (tgt := 57) X dX6_ask_211 (by decide) ?_
            exact J_sub [2, 3, 4, 5, 1, 0] rfl (ih t27 t29 v30 h25 hf hk)
          clear hf
          have hf := qt29
          clear qt29
          refine J_icmp_ge (tgt := 204) X dX6_ask_196 (by decide) (fun c196 => ?_) (fun c196 => ?_)
          · rw [if_pos c196] at hf
            refine J_iload X 4 dX6_ask_204 rfl ?_
            cases hf
            exact J_sub [1, 2, 3, 0, 5] rfl yk28
          · rw [if_neg c196] at hf
            refine J_iload X 6 dX6_ask_199 rfl ?_
            refine J_goto (tgt := 206) X dX6_ask_201 (by decide) ?_
            cases hf
            exact J_sub [1, 2, 3, 0, 5] rfl yk28
        clear hf
        have hf := qt27
        clear qt27
        refine J_icmp_ge (tgt := 190) X dX6_ask_172 (by decide) (fun c172 => ?_) (fun c172 => ?_)
        · rw [if_pos c172] at hf
          refine J_iload_n X 3 dX6_ask_190 rfl rfl ?_
          cases hf
          exact J_sub [0, 1, 2, 4, 5, 6] rfl yk26
        · rw [if_neg c172] at hf
          refine J_iload X 5 dX6_ask_175 rfl ?_
          refine J_const X (2 : Int32) dX6_ask_177 (by decide) ?_
          refine J_idiv X dX6_ask_178 (by decide) ?_
          refine J_bipush X (10 : Int32) dX6_ask_179 (by decide) ?_
          refine J_imul X dX6_ask_181 ?_
          refine J_iload X 5 dX6_ask_182 rfl ?_
          refine J_const X (2 : Int32) dX6_ask_184 (by decide) ?_
          refine J_irem X dX6_ask_185 (by decide) ?_
          refine J_iadd X dX6_ask_186 ?_
          refine J_goto (tgt := 191) X dX6_ask_187 (by decide) ?_
          cases hf
          exact J_sub [0, 1, 2, 4, 5, 6] rfl yk26
set_option maxHeartbeats 4000000 in
set_option maxRecDepth 100000 in
theorem c_X6_ask (l : Launch) (o : Om) (emb : Hp → va_W) (A : Nat → Prop) (hA : ∀ h : Hp, va_D A (emb h)) (hO : isX6 o emb) (x1 : Int32) (h : Hp) (r : Int32) (h' : Hp) (hf : f_X6_ask x1 h = some (r, h')) : Ct l o emb A yX6_ask cX6_ask 9 (some .int) 2 47 [.ref (o.1 0), .int x1] h (some (.int r)) h' := by
  refine Ct.of RX6 rfl (by decide +kernel) hA (Nat.le_of_ble_eq_true rfl) (fun p e s m args below meth c X => ?_)
  refine J_sub (lo' := [(0, .ref (o.1 0)), (1, .int x1)]) [0, 1] rfl ?_
  rw [f_X6_ask] at hf
  refine J_iload_n X 1 dX6_ask_0 rfl rfl ?_
  refine J_const X (0 : Int32) dX6_ask_1 (by decide) ?_
  refine J_const X (1 : Int32) dX6_ask_2 (by decide) ?_
  obtain ⟨v1, qv1, hf⟩ := ob hf
  refine J_callS X (rest := []) (rs := [.int v1]) (c_X6_in l o emb A hA x1 (0 : Int32) (1 : Int32) h v1 qv1) wd_660 wd_661 wd_41 wd_662 hd_X6_in ⟨Nat.le_of_ble_eq_true rfl, Nat.le_of_ble_eq_true rfl⟩ ⟨Nat.zero_le _, Nat.zero_le _⟩ (Nat.le_of_ble_eq_true rfl) dX6_ask_3 rfl rfl ?_
  refine J_if_ne (tgt := 12) X dX6_ask_6 (by decide) (fun c6 => ?_) (fun c6 => ?_)
  · rw [if_neg c6] at hf
    refine J_const X (0 : Int32) dX6_ask_12 (by decide) ?_
    refine J_istore_n X [(2, .int (0 : Int32)), (0, .ref (o.1 0)), (1, .int x1)] dX6_ask_13 rfl (Nat.le_of_ble_eq_true rfl) rfl ?_
    refine J_const X (0 : Int32) dX6_ask_14 (by decide) ?_
    refine J_istore_n X [(3, .int (0 : Int32)), (2, .int (0 : Int32)), (0, .ref (o.1 0)), (1, .int x1)] dX6_ask_15 rfl (Nat.le_of_ble_eq_true rfl) rfl ?_
    refine J_sub (lo' := [(0, .ref (o.1 0)), (1, .int x1), (2, .int (0 : Int32)), (3, .int (0 : Int32))]) [2, 3, 1, 0] rfl ?_
    refine cf_X6_ask_l16 hA X  hO x1 _ _ (0 : Int32) (0 : Int32) h hf (fun w7 w8 h9 hf => ?_)
    refine J_bipush X (-6 : Int32) dX6_ask_47 (by decide) ?_
    refine J_istore_n X [(3, .int (-6 : Int32)), (0, .ref (o.1 0)), (1, .int x1), (2, .int w7)] dX6_ask_49 rfl (Nat.le_of_ble_eq_true rfl) rfl ?_
    refine J_ldc X wd_777 dX6_ask_50 ?_
    refine J_istore X [(4, .int (1000000 : Int32)), (3, .int (-6 : Int32)), (0, .ref (o.1 0)), (1, .int x1), (2, .int w7)] dX6_ask_52 (Nat.le_of_ble_eq_true rfl) rfl ?_
    refine J_const X (0 : Int32) dX6_ask_54 (by decide) ?_
    refine J_istore X [(5, .int (0 : Int32)), (4, .int (1000000 : Int32)), (3, .int (-6 : Int32)), (0, .ref (o.1 0)), (1, .int x1), (2, .int w7)] dX6_ask_55 (Nat.le_of_ble_eq_true rfl) rfl ?_
    refine J_sub (lo' := [(0, .ref (o.1 0)), (1, .int x1), (2, .int w7), (3, .int (-6 : Int32)), (4, .int (1000000 : Int32)), (5, .int (0 : Int32))]) [3, 4, 5, 2, 1, 0] rfl ?_
    refine cf_X6_ask_l57 hA X  hO x1 w7 _ _ (-6 : Int32) (1000000 : Int32) (0 : Int32) h9 hf (fun w31 w32 w33 h34 hf => ?_)
    refine J_iload_n X 1 dX6_ask_214 rfl rfl ?_
    refine J_if_lt (tgt := 222) X dX6_ask_215 (by decide) (fun c215 => ?_) (fun c215 => ?_)
    · rw [if_pos c215] at hf
      refine J_iload_n X 1 dX6_ask_222 rfl rfl ?_
      refine J_goto (tgt := 228) X dX6_ask_223 (by decide) ?_
      cases hf
      exact J_iret X dX6_ask_228
    · rw [if_neg c215] at hf
      refine J_iload_n X 0 dX6_ask_218 rfl rfl ?_
      refine J_if_ne (tgt := 226) X dX6_ask_219 (by decide) (fun c219 => ?_) (fun c219 => ?_)
      · rw [if_neg c219] at hf
        refine J_iload X 2 dX6_ask_226 rfl ?_
        cases hf
        exact J_iret X dX6_ask_228
      · rw [if_pos c219] at hf
        refine J_iload_n X 1 dX6_ask_222 rfl rfl ?_
        refine J_goto (tgt := 228) X dX6_ask_223 (by decide) ?_
        cases hf
        exact J_iret X dX6_ask_228
  · rw [if_pos c6] at hf
    refine J_bipush X (-2 : Int32) dX6_ask_9 (by decide) ?_
    cases hf
    exact J_iret X dX6_ask_11
theorem hd_X6_tacks : yX6_tacks.cls ≠ "java/lang/invoke/MethodHandle" ∧ yX6_tacks.cls ≠ "java/lang/invoke/VarHandle" ∧ (parseMethodDescriptor yX6_tacks.desc).map (fun d => d.parameters.length) = some 3 := by decide +kernel
set_option maxHeartbeats 4000000 in
set_option maxRecDepth 100000 in
theorem cf_X6_tacks_l54 {R : Type} (hA : ∀ h : Hp, va_D A (emb h)) (X : Cx p s m args meth c RX6 cX6_tacks 7 (some .int) o)  (hO : isX6 o emb) (s1 : Int32) (s2 : Int32) (s3 : Int32) (s5 : Int32) (h : Hp) {kx : Int32 → Int32 → Option R} (t : R) : ∀ (n : Nat) (s4 : Int32) (s6 : Int32), f_X6_tacks_l54 s1 s2 s3 s5 h kx n s4 s6 = some t → (∀ (s4 : Int32) (s6 : Int32), kx s4 s6 = some t → J p l e (rmf 1 22) s m args below meth c 0 0 Z o emb A H0 7 105 [(0, .ref (o.1 0)), (1, .int s1), (2, .int s2), (3, .int s3), (4, .int s4), (5, .int s5)] [] h) → J p l e (rmf 1 22) s m args below meth c 0 0 Z o emb A H0 7 54 [(0, .ref (o.1 0)), (1, .int s1), (2, .int s2), (3, .int s3), (4, .int s4), (5, .int s5), (6, .int s6)] [] h := by
  intro n
  induction n with
  | zero =>
    intro s4 s6 hf hk
    cases hf
  | succ n ih =>
    intro s4 s6 hf hk
    rw [f_X6_tacks_l54] at hf
    refine J_iload X 6 dX6_tacks_54 rfl ?_
    refine J_if_le (tgt := 105) X dX6_tacks_56 (by decide) (fun c56 => ?_) (fun c56 => ?_)
    · rw [if_pos c56] at hf
      exact J_sub [0, 1, 2, 3, 4, 5] rfl (hk s4 s6 hf)
    · rw [if_neg c56] at hf
      refine J_iload_n X 2 dX6_tacks_59 rfl rfl ?_
      refine J_iload X 6 dX6_tacks_60 rfl ?_
      refine J_const X (1 : Int32) dX6_tacks_62 (by decide) ?_
      refine J_isub X dX6_tacks_63 ?_
      obtain ⟨v4, qv4, hf⟩ := ob hf
      refine J_callS X (rest := []) (rs := [.int v4]) (c_X6_has l o emb A hA s2 (s6 - (1 : Int32)) h v4 qv4) wd_730 wd_731 wd_41 wd_732 hd_X6_has ⟨Nat.le_of_ble_eq_true rfl, Nat.le_of_ble_eq_true rfl⟩ ⟨Nat.zero_le _, Nat.zero_le _⟩ (Nat.le_of_ble_eq_true rfl) dX6_tacks_64 rfl rfl ?_
      obtain ⟨t6, qt6, hf⟩ := ob hf
      have yk5 : J p l e (rmf 1 22) s m args below meth c 0 0 Z o emb A H0 7 97 [(0, .ref (o.1 0)), (1, .int s1), (2, .int s2), (3, .int s3), (5, .int s5), (6, .int s6)] [.int t6] h := by
        refine J_istore X [(4, .int t6), (0, .ref (o.1 0)), (1, .int s1), (2, .int s2), (3, .int s3), (5, .int s5), (6, .int s6)] dX6_tacks_97 (Nat.le_of_ble_eq_true rfl) rfl ?_
        obtain ⟨v7, qv7, hf⟩ := ob hf
        refine J_iinc X 6 [(6, .int v7), (4, .int t6), (0, .ref (o.1 0)), (1, .int s1), (2, .int s2), (3, .int s3), (5, .int s5)] dX6_tacks_99 rfl (Option.some.inj qv7) (Nat.le_of_ble_eq_true rfl) rfl ?_
        refine J_goto (tgt := 54) X dX6_tacks_102 (by decide) ?_
        exact J_sub [2, 3, 4, 5, 1, 6, 0] rfl (ih t6 v7 hf hk)
      clear hf
      have hf := qt6
      clear qt6
      refine J_if_eq (tgt := 95) X dX6_tacks_67 (by decide) (fun c67 => ?_) (fun c67 => ?_)
      · rw [if_pos c67] at hf
        refine J_iload X 4 dX6_tacks_95 rfl ?_
        cases hf
        exact J_sub [0, 1, 2, 3, 5, 6] rfl yk5
      · rw [if_neg c67] at hf
        refine J_iload X 6 dX6_tacks_70 rfl ?_
        refine J_iload X 5 dX6_tacks_72 rfl ?_
        refine J_icmp_gt (tgt := 95) X dX6_tacks_74 (by decide) (fun c74 => ?_) (fun c74 => ?_)
        · rw [if_pos c74] at hf
          refine J_iload X 4 dX6_tacks_95 rfl ?_
          cases hf
          exact J_sub [0, 1, 2, 3, 5, 6] rfl yk5
        · rw [if_neg c74] at hf
          refine J_aload_n X 0 dX6_tacks_77 rfl rfl ?_
          refine J_get X hO.1 inX6 rfl 16 (Nat.le_of_ble_eq_true rfl) wd_607 rfl (v := .ref (o.1 10)) rfl dX6_tacks_78 ?_
          refine J_iload X 5 dX6_tacks_81 rfl ?_
          refine J_iload X 6 dX6_tacks_83 rfl ?_
          refine J_isub X dX6_tacks_85 ?_
          obtain ⟨v8, qv8, hf⟩ := ob hf
          refine J_zald X hO.2.2.2.2.2.2.2.2.2.2.1 (ald_s qv8).1 dX6_tacks_86 ?_
          refine J_topi v8 (ald_s qv8).2 ?_
          refine J_if_ne (tgt := 95) X dX6_tacks_87 (by decide) (fun c87 => ?_) (fun c87 => ?_)
          · rw [if_neg c87] at hf
            refine J_iload X 4 dX6_tacks_95 rfl ?_
            cases hf
            exact J_sub [0, 1, 2, 3, 5, 6] rfl yk5
          · rw [if_pos c87] at hf
            refine J_iload X 6 dX6_tacks_90 rfl ?_
            refine J_goto (tgt := 97) X dX6_tacks_92 (by decide) ?_
            cases hf
            exact J_sub [0, 1, 2, 3, 5, 6] rfl yk5
set_option maxHeartbeats 4000000 in
set_option maxRecDepth 100000 in
theorem cf_X6_tacks_l40 {R : Type} (hA : ∀ h : Hp, va_D A (emb h)) (X : Cx p s m args meth c RX6 cX6_tacks 7 (some .int) o)  (hO : isX6 o emb) (s1 : Int32) (s2 : Int32) (s3 : Int32) {kx : Int32 → Int32 → Hp → Option R} (t : R) : ∀ (n : Nat) (s4 : Int32) (s5 : Int32) (h : Hp), f_X6_tacks_l40 s1 s2 s3 kx n s4 s5 h = some t → (∀ (s4 : Int32) (s5 : Int32) (h : Hp), kx s4 s5 h = some t → J p l e (rmf 1 22) s m args below meth c 0 0 Z o emb A H0 7 128 [(3, .int s3), (4, .int s4)] [] h) → J p l e (rmf 1 22) s m args below meth c 0 0 Z o emb A H0 7 40 [(0, .ref (o.1 0)), (1, .int s1), (2, .int s2), (3, .int s3), (4, .int s4), (5, .int s5)] [] h := by
  intro n
  induction n with
  | zero =>
    intro s4 s5 h hf hk
    cases hf
  | succ n ih =>
    intro s4 s5 h hf hk
    rw [f_X6_tacks_l40] at hf
    refine J_iload X 5 dX6_tacks_40 rfl ?_
    refine J_iload_n X 1 dX6_tacks_42 rfl rfl ?_
    refine J_icmp_gt (tgt := 128) X dX6_tacks_43 (by decide) (fun c43 => ?_) (fun c43 => ?_)
    · rw [if_pos c43] at hf
      exact J_sub [3, 4] rfl (hk s4 s5 h hf)
    · rw [if_neg c43] at hf
      refine J_bipush X (-6 : Int32) dX6_tacks_46 (by decide) ?_
      refine J_istore X [(4, .int (-6 : Int32)), (0, .ref (o.1 0)), (1, .int s1), (2, .int s2), (3, .int s3), (5, .int s5)] dX6_tacks_48 (Nat.le_of_ble_eq_true rfl) rfl ?_
      refine J_bipush X (9 : Int32) dX6_tacks_50 (by decide) ?_
      refine J_istore X [(6, .int (9 : Int32)), (4, .int (-6 : Int32)), (0, .ref (o.1 0)), (1, .int s1), (2, .int s2), (3, .int s3), (5, .int s5)] dX6_tacks_52 (Nat.le_of_ble_eq_true rfl) rfl ?_
      refine J_sub (lo' := [(0, .ref (o.1 0)), (1, .int s1), (2, .int s2), (3, .int s3), (4, .int (-6 : Int32)), (5, .int s5), (6, .int (9 : Int32))]) [2, 3, 4, 5, 1, 6, 0] rfl ?_
      refine cf_X6_tacks_l54 hA X  hO s1 s2 s3 s5 h _ _ (-6 : Int32) (9 : Int32) hf (fun w9 w10 hf => ?_)
      refine J_aload_n X 0 dX6_tacks_105 rfl rfl ?_
      refine J_get X hO.1 inX6 rfl 16 (Nat.le_of_ble_eq_true rfl) wd_607 rfl (v := .ref (o.1 10)) rfl dX6_tacks_106 ?_
      refine J_iload X 5 dX6_tacks_109 rfl ?_
      refine J_iload X 4 dX6_tacks_111 rfl ?_
      obtain ⟨t12, qt12, hf⟩ := ob hf
      have yk11 : J p l e (rmf 1 22) s m args below meth c 0 0 Z o emb A H0 7 121 [(0, .ref (o.1 0)), (1, .int s1), (2, .int s2), (3, .int s3), (4, .int w9), (5, .int s5)] [.int t12, .int s5, .ref (o.1 10)] h := by
        obtain ⟨h13, qh13, hf⟩ := ob hf
        refine J_zast X hO.2.2.2.2.2.2.2.2.2.2.1 (zast_s qh13).1 (zast_s qh13).2.1 dX6_tacks_121 ?_
        refine J_hp h13 (zast_s qh13).2.2 ?_
        obtain ⟨v14, qv14, hf⟩ := ob hf
        refine J_iinc X 5 [(5, .int v14), (0, .ref (o.1 0)), (1, .int s1), (2, .int s2), (3, .int s3), (4, .int w9)] dX6_tacks_122 rfl (Option.some.inj qv14) (Nat.le_of_ble_eq_true rfl) rfl ?_
        refine J_goto (tgt := 40) X dX6_tacks_125 (by decide) ?_
        exact J_sub [1, 2, 3, 4, 5, 0] rfl (ih w9 v14 h13 hf hk)
      clear hf
      have hf := qt12
      clear qt12
      refine J_if_le (tgt := 120) X dX6_tacks_113 (by decide) (fun c113 => ?_) (fun c113 => ?_)
      · rw [if_pos c113] at hf
        refine J_const X (0 : Int32) dX6_tacks_120 (by decide) ?_
        cases hf
        exact J_sub [0, 1, 2, 3, 4, 5] rfl yk11
      · rw [if_neg c113] at hf
        refine J_const X (1 : Int32) dX6_tacks_116 (by decide) ?_
        refine J_goto (tgt := 121) X dX6_tacks_117 (by decide) ?_
        cases hf
        exact J_sub [0, 1, 2, 3, 4, 5] rfl yk11
set_option maxHeartbeats 4000000 in
set_option maxRecDepth 100000 in
theorem c_X6_tacks (l : Launch) (o : Om) (emb : Hp → va_W) (A : Nat → Prop) (hA : ∀ h : Hp, va_D A (emb h)) (hO : isX6 o emb) (x1 : Int32) (x2 : Int32) (x3 : Int32) (h : Hp) (r : Int32) (h' : Hp) (hf : f_X6_tacks x1 x2 x3 h = some (r, h')) : Ct l o emb A yX6_tacks cX6_tacks 7 (some .int) 1 22 [.ref (o.1 0), .int x1, .int x2, .int x3] h (some (.int r)) h' := by
  refine Ct.of RX6 rfl (by decide +kernel) hA (Nat.le_of_ble_eq_true rfl) (fun p e s m args below meth c X => ?_)
  refine J_sub (lo' := [(0, .ref (o.1 0)), (1, .int x1), (2, .int x2), (3, .int x3)]) [0, 1, 2, 3] rfl ?_
  rw [f_X6_tacks] at hf
  refine J_iload_n X 1 dX6_tacks_0 rfl rfl ?_
  refine J_const X (0 : Int32) dX6_tacks_1 (by decide) ?_
  refine J_bipush X (99 : Int32) dX6_tacks_2 (by decide) ?_
  obtain ⟨v1, qv1, hf⟩ := ob hf
  refine J_callS X (rest := []) (rs := [.int v1]) (c_X6_in l o emb A hA x1 (0 : Int32) (99 : Int32) h v1 qv1) wd_660 wd_661 wd_41 wd_662 hd_X6_in ⟨Nat.le_of_ble_eq_true rfl, Nat.le_of_ble_eq_true rfl⟩ ⟨Nat.zero_le _, Nat.zero_le _⟩ (Nat.le_of_ble_eq_true rfl) dX6_tacks_4 rfl rfl ?_
  refine J_if_eq (tgt := 30) X dX6_tacks_7 (by decide) (fun c7 => ?_) (fun c7 => ?_)
  · rw [if_pos c7] at hf
    refine J_bipush X (-2 : Int32) dX6_tacks_30 (by decide) ?_
    cases hf
    exact J_iret X dX6_tacks_32
  · rw [if_neg c7] at hf
    refine J_iload_n X 2 dX6_tacks_10 rfl rfl ?_
    refine J_const X (1 : Int32) dX6_tacks_11 (by decide) ?_
    refine J_sipush X (511 : Int32) dX6_tacks_12 (by decide) ?_
    obtain ⟨v2, qv2, hf⟩ := ob hf
    refine J_callS X (rest := []) (rs := [.int v2]) (c_X6_in l o emb A hA x2 (1 : Int32) (511 : Int32) h v2 qv2) wd_660 wd_661 wd_41 wd_662 hd_X6_in ⟨Nat.le_of_ble_eq_true rfl, Nat.le_of_ble_eq_true rfl⟩ ⟨Nat.zero_le _, Nat.zero_le _⟩ (Nat.le_of_ble_eq_true rfl) dX6_tacks_15 rfl rfl ?_
    refine J_if_eq (tgt := 30) X dX6_tacks_18 (by decide) (fun c18 => ?_) (fun c18 => ?_)
    · rw [if_pos c18] at hf
      refine J_bipush X (-2 : Int32) dX6_tacks_30 (by decide) ?_
      cases hf
      exact J_iret X dX6_tacks_32
    · rw [if_neg c18] at hf
      refine J_iload_n X 3 dX6_tacks_21 rfl rfl ?_
      refine J_const X (0 : Int32) dX6_tacks_22 (by decide) ?_
      refine J_const X (1 : Int32) dX6_tacks_23 (by decide) ?_
      obtain ⟨v3, qv3, hf⟩ := ob hf
      refine J_callS X (rest := []) (rs := [.int v3]) (c_X6_in l o emb A hA x3 (0 : Int32) (1 : Int32) h v3 qv3) wd_660 wd_661 wd_41 wd_662 hd_X6_in ⟨Nat.le_of_ble_eq_true rfl, Nat.le_of_ble_eq_true rfl⟩ ⟨Nat.zero_le _, Nat.zero_le _⟩ (Nat.le_of_ble_eq_true rfl) dX6_tacks_24 rfl rfl ?_
      refine J_if_ne (tgt := 33) X dX6_tacks_27 (by decide) (fun c27 => ?_) (fun c27 => ?_)
      · rw [if_neg c27] at hf
        refine J_bipush X (-6 : Int32) dX6_tacks_33 (by decide) ?_
        refine J_istore X [(4, .int (-6 : Int32)), (0, .ref (o.1 0)), (1, .int x1), (2, .int x2), (3, .int x3)] dX6_tacks_35 (Nat.le_of_ble_eq_true rfl) rfl ?_
        refine J_const X (0 : Int32) dX6_tacks_37 (by decide) ?_
        refine J_istore X [(5, .int (0 : Int32)), (4, .int (-6 : Int32)), (0, .ref (o.1 0)), (1, .int x1), (2, .int x2), (3, .int x3)] dX6_tacks_38 (Nat.le_of_ble_eq_true rfl) rfl ?_
        refine J_sub (lo' := [(0, .ref (o.1 0)), (1, .int x1), (2, .int x2), (3, .int x3), (4, .int (-6 : Int32)), (5, .int (0 : Int32))]) [2, 3, 4, 5, 1, 0] rfl ?_
        refine cf_X6_tacks_l40 hA X  hO x1 x2 x3 _ _ (-6 : Int32) (0 : Int32) h hf (fun w15 w16 h17 hf => ?_)
        refine J_iload_n X 0 dX6_tacks_128 rfl rfl ?_
        refine J_const X (1 : Int32) dX6_tacks_129 (by decide) ?_
        refine J_icmp_ne (tgt := 138) X dX6_tacks_130 (by decide) (fun c130 => ?_) (fun c130 => ?_)
        · rw [if_neg c130] at hf
          refine J_iload X 1 dX6_tacks_138 rfl ?_
          refine J_if_le (tgt := 147) X dX6_tacks_140 (by decide) (fun c140 => ?_) (fun c140 => ?_)
          · rw [if_pos c140] at hf
            refine J_const X (0 : Int32) dX6_tacks_147 (by decide) ?_
            cases hf
            exact J_iret X dX6_tacks_148
          · rw [if_neg c140] at hf
            refine J_const X (1 : Int32) dX6_tacks_143 (by decide) ?_
            refine J_goto (tgt := 148) X dX6_tacks_144 (by decide) ?_
            cases hf
            exact J_iret X dX6_tacks_148
        · rw [if_pos c130] at hf
          refine J_iload X 1 dX6_tacks_133 rfl ?_
          refine J_goto (tgt := 148) X dX6_tacks_135 (by decide) ?_
          cases hf
          exact J_iret X dX6_tacks_148
      · rw [if_pos c27] at hf
        refine J_bipush X (-2 : Int32) dX6_tacks_30 (by decide) ?_
        cases hf
        exact J_iret X dX6_tacks_32
theorem hd_X6_wet : yX6_wet.cls ≠ "java/lang/invoke/MethodHandle" ∧ yX6_wet.cls ≠ "java/lang/invoke/VarHandle" ∧ (parseMethodDescriptor yX6_wet.desc).map (fun d => d.parameters.length) = some 5 := by decide +kernel
set_option maxHeartbeats 4000000 in
set_option maxRecDepth 100000 in
theorem cf_X6_wet_l83 {R : Type} (hA : ∀ h : Hp, va_D A (emb h)) (X : Cx p s m args meth c RX6 cX6_wet 11 (some .long) o)  (hO : isX6 o emb) (s1 : Int32) (s2 : Int32) (s3 : Int32) (s5 : Int32) (s6 : Int64) {kx : Int32 → Hp → Option R} (t : R) : ∀ (n : Nat) (s8 : Int32) (h : Hp), f_X6_wet_l83 s1 s2 s3 s5 s6 kx n s8 h = some t → (∀ (s8 : Int32) (h : Hp), kx s8 h = some t → J p l e (rmf 1 30) s m args below meth c 0 0 Z o emb A H0 11 113 [(0, .ref (o.1 0)), (1, .int s1), (2, .int s2), (3, .int s3), (5, .int s5), (6, .long s6)] [] h) → J p l e (rmf 1 30) s m args below meth c 0 0 Z o emb A H0 11 83 [(0, .ref (o.1 0)), (1, .int s1), (2, .int s2), (3, .int s3), (5, .int s5), (6, .long s6), (8, .int s8)] [] h := by
  intro n
  induction n with
  | zero =>
    intro s8 h hf hk
    cases hf
  | succ n ih =>
    intro s8 h hf hk
    rw [f_X6_wet_l83] at hf
    refine J_iload X 6 dX6_wet_83 rfl ?_
    refine J_bipush X (18 : Int32) dX6_wet_85 (by decide) ?_
    refine J_icmp_ge (tgt := 113) X dX6_wet_87 (by decide) (fun c87 => ?_) (fun c87 => ?_)
    · rw [if_pos c87] at hf
      exact J_sub [0, 1, 2, 3, 4, 5] rfl (hk s8 h hf)
    · rw [if_neg c87] at hf
      refine J_aload_n X 0 dX6_wet_90 rfl rfl ?_
      refine J_get X hO.1 inX6 rfl 17 (Nat.le_of_ble_eq_true rfl) wd_608 rfl (v := .ref (o.1 11)) rfl dX6_wet_91 ?_
      refine J_iload X 6 dX6_wet_94 rfl ?_
      refine J_iload X 6 dX6_wet_96 rfl ?_
      obtain ⟨t7, qt7, hf⟩ := ob hf
      have yk6 : J p l e (rmf 1 30) s m args below meth c 0 0 Z o emb A H0 11 106 [(0, .ref (o.1 0)), (1, .int s1), (2, .int s2), (3, .int s3), (5, .int s5), (6, .long s6), (8, .int s8)] [.long t7, .int s8, .ref (o.1 11)] h := by
        obtain ⟨h8, qh8, hf⟩ := ob hf
        refine J_last X hO.2.2.2.2.2.2.2.2.2.2.2.1 (last_s qh8).1 dX6_wet_106 ?_
        refine J_hp h8 (last_s qh8).2 ?_
        obtain ⟨v9, qv9, hf⟩ := ob hf
        refine J_iinc X 6 [(8, .int v9), (0, .ref (o.1 0)), (1, .int s1), (2, .int s2), (3, .int s3), (5, .int s5), (6, .long s6)] dX6_wet_107 rfl (Option.some.inj qv9) (Nat.le_of_ble_eq_true rfl) rfl ?_
        refine J_goto (tgt := 83) X dX6_wet_110 (by decide) ?_
        exact J_sub [1, 2, 3, 4, 5, 6, 0] rfl (ih v9 h8 hf hk)
      clear hf
      have hf := qt7
      clear qt7
      refine J_if_ne (tgt := 105) X dX6_wet_98 (by decide) (fun c98 => ?_) (fun c98 => ?_)
      · rw [if_neg c98] at hf
        refine J_lconst X (0 : Int64) dX6_wet_105 (by decide) ?_
        cases hf
        exact J_sub [0, 1, 2, 3, 4, 5, 6] rfl yk6
      · rw [if_pos c98] at hf
        refine J_lconst X (1 : Int64) dX6_wet_101 (by decide) ?_
        refine J_goto (tgt := 106) X dX6_wet_102 (by decide) ?_
        cases hf
        exact J_sub [0, 1, 2, 3, 4, 5, 6] rfl yk6
set_option maxHeartbeats 4000000 in
set_option maxRecDepth 100000 in
theorem cf_X6_wet_l134 {R : Type} (hA : ∀ h : Hp, va_D A (emb h)) (X : Cx p s m args meth c RX6 cX6_wet 11 (some .long) o)  (hO : isX6 o emb) (s1 : Int32) (s2 : Int32) (s3 : Int32) (s5 : Int32) (s6 : Int64) (s8 : Int32) {kx : Int32 → Hp → Option R} (t : R) : ∀ (n : Nat) (s9 : Int32) (h : Hp), f_X6_wet_l134 s1 s2 s3 s5 s6 s8 kx n s9 h = some t → (∀ (s9 : Int32) (h : Hp), kx s9 h = some t → J p l e (rmf 1 30) s m args below meth c 0 0 Z o emb A H0 11 187 [(0, .ref (o.1 0)), (1, .int s1), (2, .int s2), (3, .int s3), (5, .int s5), (6, .long s6), (8, .int s8)] [] h) → J p l e (rmf 1 30) s m args below meth c 0 0 Z o emb A H0 11 134 [(0, .ref (o.1 0)), (1, .int s1), (2, .int s2), (3, .int s3), (5, .int s5), (6, .long s6), (8, .int s8), (9, .int s9)] [] h := by
  intro n
  induction n with
  | zero =>
    intro s9 h hf hk
    cases hf
  | succ n ih =>
    intro s9 h hf hk
    rw [f_X6_wet_l134] at hf
    refine J_iload X 7 dX6_wet_134 rfl ?_
    refine J_if_lt (tgt := 187) X dX6_wet_136 (by decide) (fun c136 => ?_) (fun c136 => ?_)
    · rw [if_pos c136] at hf
      exact J_sub [0, 1, 2, 3, 4, 5, 6] rfl (hk s9 h hf)
    · rw [if_neg c136] at hf
      refine J_aload_n X 0 dX6_wet_139 rfl rfl ?_
      refine J_get X hO.1 inX6 rfl 17 (Nat.le_of_ble_eq_true rfl) wd_608 rfl (v := .ref (o.1 11)) rfl dX6_wet_140 ?_
      refine J_iload X 7 dX6_wet_143 rfl ?_
      refine J_aload_n X 0 dX6_wet_145 rfl rfl ?_
      refine J_get X hO.1 inX6 rfl 17 (Nat.le_of_ble_eq_true rfl) wd_608 rfl (v := .ref (o.1 11)) rfl dX6_wet_146 ?_
      refine J_iload X 7 dX6_wet_149 rfl ?_
      obtain ⟨v13, qv13, hf⟩ := ob hf
      refine J_lald X hO.2.2.2.2.2.2.2.2.2.2.2.1 (lald_s qv13).1 dX6_wet_151 ?_
      refine J_topl v13 (lald_s qv13).2 ?_
      refine J_bipush X (10 : Int32) dX6_wet_152 (by decide) ?_
      refine J_iload_n X 2 dX6_wet_154 rfl rfl ?_
      refine J_isub X dX6_wet_155 ?_
      refine J_i2l X dX6_wet_156 ?_
      refine J_lmul X dX6_wet_157 ?_
      refine J_iload X 7 dX6_wet_158 rfl ?_
      obtain ⟨t15, qt15, hf⟩ := ob hf
      have yk14 : J p l e (rmf 1 30) s m args below meth c 0 0 Z o emb A H0 11 179 [(0, .ref (o.1 0)), (1, .int s1), (2, .int s2), (3, .int s3), (5, .int s5), (6, .long s6), (8, .int s8), (9, .int s9)] [.long t15, .long (v13 * (((10 : Int32) - s2)).toInt64), .int s9, .ref (o.1 11)] h := by
        refine J_ladd X dX6_wet_179 ?_
        obtain ⟨h16, qh16, hf⟩ := ob hf
        refine J_last X hO.2.2.2.2.2.2.2.2.2.2.2.1 (last_s qh16).1 dX6_wet_180 ?_
        refine J_hp h16 (last_s qh16).2 ?_
        obtain ⟨v17, qv17, hf⟩ := ob hf
        refine J_iinc X 7 [(9, .int v17), (0, .ref (o.1 0)), (1, .int s1), (2, .int s2), (3, .int s3), (5, .int s5), (6, .long s6), (8, .int s8)] dX6_wet_181 rfl (Option.some.inj qv17) (Nat.le_of_ble_eq_true rfl) rfl ?_
        refine J_goto (tgt := 134) X dX6_wet_184 (by decide) ?_
        exact J_sub [1, 2, 3, 4, 5, 6, 7, 0] rfl (ih v17 h16 hf hk)
      clear hf
      have hf := qt15
      clear qt15
      refine J_if_le (tgt := 178) X dX6_wet_160 (by decide) (fun c160 => ?_) (fun c160 => ?_)
      · rw [if_pos c160] at hf
        refine J_lconst X (0 : Int64) dX6_wet_178 (by decide) ?_
        cases hf
        exact J_sub [0, 1, 2, 3, 4, 5, 6, 7] rfl yk14
      · rw [if_neg c160] at hf
        refine J_aload_n X 0 dX6_wet_163 rfl rfl ?_
        refine J_get X hO.1 inX6 rfl 17 (Nat.le_of_ble_eq_true rfl) wd_608 rfl (v := .ref (o.1 11)) rfl dX6_wet_164 ?_
        refine J_iload X 7 dX6_wet_167 rfl ?_
        refine J_const X (1 : Int32) dX6_wet_169 (by decide) ?_
        refine J_isub X dX6_wet_170 ?_
        obtain ⟨v18, qv18, hf⟩ := ob hf
        refine J_lald X hO.2.2.2.2.2.2.2.2.2.2.2.1 (lald_s qv18).1 dX6_wet_171 ?_
        refine J_topl v18 (lald_s qv18).2 ?_
        refine J_iload_n X 2 dX6_wet_172 rfl rfl ?_
        refine J_i2l X dX6_wet_173 ?_
        refine J_lmul X dX6_wet_174 ?_
        refine J_goto (tgt := 179) X dX6_wet_175 (by decide) ?_
        cases hf
        exact J_sub [0, 1, 2, 3, 4, 5, 6, 7] rfl yk14
set_option maxHeartbeats 4000000 in
set_option maxRecDepth 100000 in
theorem cf_X6_wet_l116 {R : Type} (hA : ∀ h : Hp, va_D A (emb h)) (X : Cx p s m args meth c RX6 cX6_wet 11 (some .long) o)  (hO : isX6 o emb) (s1 : Int32) (s2 : Int32) (s3 : Int32) (s5 : Int32) {kx : Int64 → Int32 → Hp → Option R} (t : R) : ∀ (n : Nat) (s6 : Int64) (s8 : Int32) (h : Hp), f_X6_wet_l116 s1 s2 s3 s5 kx n s6 s8 h = some t → (∀ (s6 : Int64) (s8 : Int32) (h : Hp), kx s6 s8 h = some t → J p l e (rmf 1 30) s m args below meth c 0 0 Z o emb A H0 11 193 [(0, .ref (o.1 0)), (1, .int s1), (3, .int s3), (5, .int s5), (6, .long s6)] [] h) → J p l e (rmf 1 30) s m args below meth c 0 0 Z o emb A H0 11 116 [(0, .ref (o.1 0)), (1, .int s1), (2, .int s2), (3, .int s3), (5, .int s5), (6, .long s6), (8, .int s8)] [] h := by
  intro n
  induction n with
  | zero =>
    intro s6 s8 h hf hk
    cases hf
  | succ n ih =>
    intro s6 s8 h hf hk
    rw [f_X6_wet_l116] at hf
    refine J_iload X 6 dX6_wet_116 rfl ?_
    refine J_iload_n X 1 dX6_wet_118 rfl rfl ?_
    refine J_icmp_ge (tgt := 193) X dX6_wet_119 (by decide) (fun c119 => ?_) (fun c119 => ?_)
    · rw [if_pos c119] at hf
      exact J_sub [0, 1, 3, 4, 5] rfl (hk s6 s8 h hf)
    · rw [if_neg c119] at hf
      refine J_lload X 5 dX6_wet_122 rfl ?_
      refine J_ldc2 X wd_834 dX6_wet_124 ?_
      refine J_lmul X dX6_wet_127 ?_
      obtain ⟨v12, qv12, hf⟩ := ob hf
      refine J_topl v12 (Option.some.inj qv12) ?_
      refine J_lstore X [(6, .long v12), (0, .ref (o.1 0)), (1, .int s1), (2, .int s2), (3, .int s3), (5, .int s5), (8, .int s8)] dX6_wet_128 (Nat.le_of_ble_eq_true rfl) rfl ?_
      refine J_bipush X (17 : Int32) dX6_wet_130 (by decide) ?_
      refine J_istore X [(9, .int (17 : Int32)), (6, .long v12), (0, .ref (o.1 0)), (1, .int s1), (2, .int s2), (3, .int s3), (5, .int s5), (8, .int s8)] dX6_wet_132 (Nat.le_of_ble_eq_true rfl) rfl ?_
      refine J_sub (lo' := [(0, .ref (o.1 0)), (1, .int s1), (2, .int s2), (3, .int s3), (5, .int s5), (6, .long v12), (8, .int s8), (9, .int (17 : Int32))]) [2, 3, 4, 5, 6, 1, 7, 0] rfl ?_
      refine cf_X6_wet_l134 hA X  hO s1 s2 s3 s5 v12 s8 _ _ (17 : Int32) h hf (fun w19 h20 hf => ?_)
      obtain ⟨v21, qv21, hf⟩ := ob hf
      refine J_iinc X 6 [(8, .int v21), (0, .ref (o.1 0)), (1, .int s1), (2, .int s2), (3, .int s3), (5, .int s5), (6, .long v12)] dX6_wet_187 rfl (Option.some.inj qv21) (Nat.le_of_ble_eq_true rfl) rfl ?_
      refine J_goto (tgt := 116) X dX6_wet_190 (by decide) ?_
      exact J_sub [1, 2, 3, 4, 5, 6, 0] rfl (ih v12 v21 h20 hf hk)
set_option maxHeartbeats 4000000 in
set_option maxRecDepth 100000 in
theorem cf_X6_wet_l199 {R : Type} (hA : ∀ h : Hp, va_D A (emb h)) (X : Cx p s m args meth c RX6 cX6_wet 11 (some .long) o)  (hO : isX6 o emb) (s1 : Int32) (s3 : Int32) (s5 : Int32) (s6 : Int64) (h : Hp) {kx : Int64 → Int32 → Option R} (t : R) : ∀ (n : Nat) (s8 : Int64) (s10 : Int32), f_X6_wet_l199 s1 s3 s5 s6 h kx n s8 s10 = some t → (∀ (s8 : Int64) (s10 : Int32), kx s8 s10 = some t → J p l e (rmf 1 30) s m args below meth c 0 0 Z o emb A H0 11 236 [(5, .int s5), (6, .long s6), (8, .long s8)] [] h) → J p l e (rmf 1 30) s m args below meth c 0 0 Z o emb A H0 11 199 [(0, .ref (o.1 0)), (1, .int s1), (3, .int s3), (5, .int s5), (6, .long s6), (8, .long s8), (10, .int s10)] [] h := by
  intro n
  induction n with
  | zero =>
    intro s8 s10 hf hk
    cases hf
  | succ n ih =>
    intro s8 s10 hf hk
    rw [f_X6_wet_l199] at hf
    refine J_iload X 6 dX6_wet_199 rfl ?_
    refine J_bipush X (18 : Int32) dX6_wet_201 (by decide) ?_
    refine J_icmp_ge (tgt := 236) X dX6_wet_203 (by decide) (fun c203 => ?_) (fun c203 => ?_)
    · rw [if_pos c203] at hf
      exact J_sub [3, 4, 5] rfl (hk s8 s10 hf)
    · rw [if_neg c203] at hf
      refine J_lload X 5 dX6_wet_206 rfl ?_
      refine J_iload_n X 1 dX6_wet_208 rfl rfl ?_
      refine J_iload X 6 dX6_wet_209 rfl ?_
      refine J_iadd X dX6_wet_211 ?_
      refine J_iload_n X 2 dX6_wet_212 rfl rfl ?_
      obtain ⟨t26, qt26, hf⟩ := ob hf
      have yk25 : J p l e (rmf 1 30) s m args below meth c 0 0 Z o emb A H0 11 227 [(0, .ref (o.1 0)), (1, .int s1), (3, .int s3), (5, .int s5), (6, .long s6), (10, .int s10)] [.long t26, .long s8] h := by
        refine J_ladd X dX6_wet_227 ?_
        obtain ⟨v27, qv27, hf⟩ := ob hf
        refine J_topl v27 (Option.some.inj qv27) ?_
        refine J_lstore X [(8, .long v27), (0, .ref (o.1 0)), (1, .int s1), (3, .int s3), (5, .int s5), (6, .long s6), (10, .int s10)] dX6_wet_228 (Nat.le_of_ble_eq_true rfl) rfl ?_
        obtain ⟨v28, qv28, hf⟩ := ob hf
        refine J_iinc X 6 [(10, .int v28), (8, .long v27), (0, .ref (o.1 0)), (1, .int s1), (3, .int s3), (5, .int s5), (6, .long s6)] dX6_wet_230 rfl (Option.some.inj qv28) (Nat.le_of_ble_eq_true rfl) rfl ?_
        refine J_goto (tgt := 199) X dX6_wet_233 (by decide) ?_
        exact J_sub [2, 3, 4, 5, 6, 1, 0] rfl (ih v27 v28 hf hk)
      clear hf
      have hf := qt26
      clear qt26
      refine J_icmp_lt (tgt := 226) X dX6_wet_213 (by decide) (fun c213 => ?_) (fun c213 => ?_)
      · rw [if_pos c213] at hf
        refine J_lconst X (0 : Int64) dX6_wet_226 (by decide) ?_
        cases hf
        exact J_sub [0, 1, 2, 3, 4, 6] rfl yk25
      · rw [if_neg c213] at hf
        refine J_aload_n X 0 dX6_wet_216 rfl rfl ?_
        refine J_get X hO.1 inX6 rfl 17 (Nat.le_of_ble_eq_true rfl) wd_608 rfl (v := .ref (o.1 11)) rfl dX6_wet_217 ?_
        refine J_iload X 6 dX6_wet_220 rfl ?_
        obtain ⟨v29, qv29, hf⟩ := ob hf
        refine J_lald X hO.2.2.2.2.2.2.2.2.2.2.2.1 (lald_s qv29).1 dX6_wet_222 ?_
        refine J_topl v29 (lald_s qv29).2 ?_
        refine J_goto (tgt := 227) X dX6_wet_223 (by decide) ?_
        cases hf
        exact J_sub [0, 1, 2, 3, 4, 6] rfl yk25
set_option maxHeartbeats 4000000 in
set_option maxRecDepth 100000 in
theorem c_X6_wet (l : Launch) (o : Om) (emb : Hp → va_W) (A : Nat → Prop) (hA : ∀ h : Hp, va_D A (emb h)) (hO : isX6 o emb) (x1 : Int32) (x2 : Int32) (x3 : Int32) (x4 : Int32) (x5 : Int32) (h : Hp) (r : Int64) (h' : Hp) (hf : f_X6_wet x1 x2 x3 x4 x5 h = some (r, h')) : Ct l o emb A yX6_wet cX6_wet 11 (some .long) 1 30 [.ref (o.1 0), .int x1, .int x2, .int x3, .int x4, .int x5] h (some (.long r)) h' := by
  refine Ct.of RX6 rfl (by decide +kernel) hA (Nat.le_of_ble_eq_true rfl) (fun p e s m args below meth c X => ?_)
  refine J_sub (lo' := [(0, .ref (o.1 0)), (1, .int x1), (2, .int x2), (3, .int x3), (4, .int x4), (5, .int x5)]) [0, 1, 2, 3, 4, 5] rfl ?_
  rw [f_X6_wet] at hf
  refine J_iload_n X 1 dX6_wet_0 rfl rfl ?_
  refine J_const X (0 : Int32) dX6_wet_1 (by decide) ?_
  refine J_bipush X (16 : Int32) dX6_wet_2 (by decide) ?_
  obtain ⟨v1, qv1, hf⟩ := ob hf
  refine J_callS X (rest := []) (rs := [.int v1]) (c_X6_in l o emb A hA x1 (0 : Int32) (16 : Int32) h v1 qv1) wd_660 wd_661 wd_41 wd_662 hd_X6_in ⟨Nat.le_of_ble_eq_true rfl, Nat.le_of_ble_eq_true rfl⟩ ⟨Nat.zero_le _, Nat.zero_le _⟩ (Nat.le_of_ble_eq_true rfl) dX6_wet_4 rfl rfl ?_
  refine J_if_eq (tgt := 50) X dX6_wet_7 (by decide) (fun c7 => ?_) (fun c7 => ?_)
  · rw [if_pos c7] at hf
    refine J_ldc2 X wd_798 dX6_wet_50 ?_
    cases hf
    exact J_lret X dX6_wet_53
  · rw [if_neg c7] at hf
    refine J_iload_n X 2 dX6_wet_10 rfl rfl ?_
    refine J_const X (0 : Int32) dX6_wet_11 (by decide) ?_
    refine J_bipush X (10 : Int32) dX6_wet_12 (by decide) ?_
    obtain ⟨v2, qv2, hf⟩ := ob hf
    refine J_callS X (rest := []) (rs := [.int v2]) (c_X6_in l o emb A hA x2 (0 : Int32) (10 : Int32) h v2 qv2) wd_660 wd_661 wd_41 wd_662 hd_X6_in ⟨Nat.le_of_ble_eq_true rfl, Nat.le_of_ble_eq_true rfl⟩ ⟨Nat.zero_le _, Nat.zero_le _⟩ (Nat.le_of_ble_eq_true rfl) dX6_wet_14 rfl rfl ?_
    refine J_if_eq (tgt := 50) X dX6_wet_17 (by decide) (fun c17 => ?_) (fun c17 => ?_)
    · rw [if_pos c17] at hf
      refine J_ldc2 X wd_798 dX6_wet_50 ?_
      cases hf
      exact J_lret X dX6_wet_53
    · rw [if_neg c17] at hf
      refine J_iload_n X 3 dX6_wet_20 rfl rfl ?_
      refine J_const X (0 : Int32) dX6_wet_21 (by decide) ?_
      refine J_bipush X (40 : Int32) dX6_wet_22 (by decide) ?_
      obtain ⟨v3, qv3, hf⟩ := ob hf
      refine J_callS X (rest := []) (rs := [.int v3]) (c_X6_in l o emb A hA x3 (0 : Int32) (40 : Int32) h v3 qv3) wd_660 wd_661 wd_41 wd_662 hd_X6_in ⟨Nat.le_of_ble_eq_true rfl, Nat.le_of_ble_eq_true rfl⟩ ⟨Nat.zero_le _, Nat.zero_le _⟩ (Nat.le_of_ble_eq_true rfl) dX6_wet_24 rfl rfl ?_
      refine J_if_eq (tgt := 50) X dX6_wet_27 (by decide) (fun c27 => ?_) (fun c27 => ?_)
      · rw [if_pos c27] at hf
        refine J_ldc2 X wd_798 dX6_wet_50 ?_
        cases hf
        exact J_lret X dX6_wet_53
      · rw [if_neg c27] at hf
        refine J_iload X 4 dX6_wet_30 rfl ?_
        refine J_const X (0 : Int32) dX6_wet_32 (by decide) ?_
        refine J_const X (1 : Int32) dX6_wet_33 (by decide) ?_
        obtain ⟨v4, qv4, hf⟩ := ob hf
        refine J_callS X (rest := []) (rs := [.int v4]) (c_X6_in l o emb A hA x4 (0 : Int32) (1 : Int32) h v4 qv4) wd_660 wd_661 wd_41 wd_662 hd_X6_in ⟨Nat.le_of_ble_eq_true rfl, Nat.le_of_ble_eq_true rfl⟩ ⟨Nat.zero_le _, Nat.zero_le _⟩ (Nat.le_of_ble_eq_true rfl) dX6_wet_34 rfl rfl ?_
        refine J_if_eq (tgt := 50) X dX6_wet_37 (by decide) (fun c37 => ?_) (fun c37 => ?_)
        · rw [if_pos c37] at hf
          refine J_ldc2 X wd_798 dX6_wet_50 ?_
          cases hf
          exact J_lret X dX6_wet_53
        · rw [if_neg c37] at hf
          refine J_iload X 5 dX6_wet_40 rfl ?_
          refine J_const X (0 : Int32) dX6_wet_42 (by decide) ?_
          refine J_const X (1 : Int32) dX6_wet_43 (by decide) ?_
          obtain ⟨v5, qv5, hf⟩ := ob hf
          refine J_callS X (rest := []) (rs := [.int v5]) (c_X6_in l o emb A hA x5 (0 : Int32) (1 : Int32) h v5 qv5) wd_660 wd_661 wd_41 wd_662 hd_X6_in ⟨Nat.le_of_ble_eq_true rfl, Nat.le_of_ble_eq_true rfl⟩ ⟨Nat.zero_le _, Nat.zero_le _⟩ (Nat.le_of_ble_eq_true rfl) dX6_wet_44 rfl rfl ?_
          refine J_if_ne (tgt := 54) X dX6_wet_47 (by decide) (fun c47 => ?_) (fun c47 => ?_)
          · rw [if_neg c47] at hf
            refine J_iload X 4 dX6_wet_54 rfl ?_
            refine J_const X (1 : Int32) dX6_wet_56 (by decide) ?_
            refine J_icmp_ne (tgt := 77) X dX6_wet_57 (by decide) (fun c57 => ?_) (fun c57 => ?_)
            · rw [if_neg c57] at hf
              refine J_lconst X (1 : Int64) dX6_wet_77 (by decide) ?_
              refine J_lstore X [(6, .long (1 : Int64)), (0, .ref (o.1 0)), (1, .int x1), (2, .int x2), (3, .int x3), (4, .int x4), (5, .int x5)] dX6_wet_78 (Nat.le_of_ble_eq_true rfl) rfl ?_
              refine J_const X (0 : Int32) dX6_wet_80 (by decide) ?_
              refine J_istore X [(8, .int (0 : Int32)), (6, .long (1 : Int64)), (0, .ref (o.1 0)), (1, .int x1), (2, .int x2), (3, .int x3), (4, .int x4), (5, .int x5)] dX6_wet_81 (Nat.le_of_ble_eq_true rfl) rfl ?_
              refine J_sub (lo' := [(0, .ref (o.1 0)), (1, .int x1), (2, .int x2), (3, .int x3), (5, .int x5), (6, .long (1 : Int64)), (8, .int (0 : Int32))]) [2, 3, 4, 5, 7, 1, 0] rfl ?_
              refine cf_X6_wet_l83 hA X  hO x1 x2 x3 x5 (1 : Int64) _ _ (0 : Int32) h hf (fun w10 h11 hf => ?_)
              refine J_const X (0 : Int32) dX6_wet_113 (by decide) ?_
              refine J_istore X [(8, .int (0 : Int32)), (0, .ref (o.1 0)), (1, .int x1), (2, .int x2), (3, .int x3), (5, .int x5), (6, .long (1 : Int64))] dX6_wet_114 (Nat.le_of_ble_eq_true rfl) rfl ?_
              refine J_sub (lo' := [(0, .ref (o.1 0)), (1, .int x1), (2, .int x2), (3, .int x3), (5, .int x5), (6, .long (1 : Int64)), (8, .int (0 : Int32))]) [1, 2, 3, 4, 5, 6, 0] rfl ?_
              refine cf_X6_wet_l116 hA X  hO x1 x2 x3 x5 _ _ (1 : Int64) (0 : Int32) h11 hf (fun w22 w23 h24 hf => ?_)
              refine J_lconst X (0 : Int64) dX6_wet_193 (by decide) ?_
              refine J_lstore X [(8, .long (0 : Int64)), (0, .ref (o.1 0)), (1, .int x1), (3, .int x3), (5, .int x5), (6, .long w22)] dX6_wet_194 (Nat.le_of_ble_eq_true rfl) rfl ?_
              refine J_const X (0 : Int32) dX6_wet_196 (by decide) ?_
              refine J_istore X [(10, .int (0 : Int32)), (8, .long (0 : Int64)), (0, .ref (o.1 0)), (1, .int x1), (3, .int x3), (5, .int x5), (6, .long w22)] dX6_wet_197 (Nat.le_of_ble_eq_true rfl) rfl ?_
              refine J_sub (lo' := [(0, .ref (o.1 0)), (1, .int x1), (3, .int x3), (5, .int x5), (6, .long w22), (8, .long (0 : Int64)), (10, .int (0 : Int32))]) [2, 3, 4, 5, 6, 1, 0] rfl ?_
              refine cf_X6_wet_l199 hA X  hO x1 x3 x5 w22 h24 _ _ (0 : Int64) (0 : Int32) hf (fun w30 w31 hf => ?_)
              refine J_lload X 2 dX6_wet_236 rfl ?_
              refine J_lload X 1 dX6_wet_238 rfl ?_
              refine J_iload X 0 dX6_wet_240 rfl ?_
              obtain ⟨v32, qv32, hf⟩ := ob hf
              refine J_callS X (rest := []) (rs := [.long v32]) (c_X6_lowest l o emb A hA w30 w22 x5 h24 v32 qv32) wd_800 wd_801 wd_41 wd_802 hd_X6_lowest ⟨Nat.le_of_ble_eq_true rfl, Nat.le_of_ble_eq_true rfl⟩ ⟨Nat.zero_le _, Nat.zero_le _⟩ (Nat.le_of_ble_eq_true rfl) dX6_wet_242 rfl rfl ?_
              cases hf
              exact J_lret X dX6_wet_245
            · rw [if_pos c57] at hf
              refine J_iload_n X 1 dX6_wet_60 rfl rfl ?_
              refine J_i2l X dX6_wet_61 ?_
              refine J_bipush X (10 : Int32) dX6_wet_62 (by decide) ?_
              refine J_iload_n X 2 dX6_wet_64 rfl rfl ?_
              refine J_iadd X dX6_wet_65 ?_
              refine J_i2l X dX6_wet_66 ?_
              refine J_lmul X dX6_wet_67 ?_
              refine J_ldc2 X wd_834 dX6_wet_68 ?_
              refine J_iload X 5 dX6_wet_71 rfl ?_
              obtain ⟨v33, qv33, hf⟩ := ob hf
              refine J_callS X (rest := []) (rs := [.long v33]) (c_X6_lowest l o emb A hA ((x1).toInt64 * (((10 : Int32) + x2)).toInt64) (10 : Int64) x5 h v33 qv33) wd_800 wd_801 wd_41 wd_802 hd_X6_lowest ⟨Nat.le_of_ble_eq_true rfl, Nat.le_of_ble_eq_true rfl⟩ ⟨Nat.zero_le _, Nat.zero_le _⟩ (Nat.le_of_ble_eq_true rfl) dX6_wet_73 rfl rfl ?_
              cases hf
              exact J_lret X dX6_wet_76
          · rw [if_pos c47] at hf
            refine J_ldc2 X wd_798 dX6_wet_50 ?_
            cases hf
            exact J_lret X dX6_wet_53
theorem hd_X6_year : yX6_year.cls ≠ "java/lang/invoke/MethodHandle" ∧ yX6_year.cls ≠ "java/lang/invoke/VarHandle" ∧ (parseMethodDescriptor yX6_year.desc).map (fun d => d.parameters.length) = some 3 := by decide +kernel
set_option maxHeartbeats 4000000 in
set_option maxRecDepth 100000 in
theorem cf_X6_year_l43 {R : Type} (hA : ∀ h : Hp, va_D A (emb h)) (X : Cx p s m args meth c RX6 cX6_year 8 (some .int) o)  (hO : isX6 o emb) (s2 : Int32) (s3 : Int32) {kx : Int32 → Int32 → Hp → Option R} (t : R) : ∀ (n : Nat) (s4 : Int32) (s5 : Int32) (h : Hp), f_X6_year_l43 s2 s3 kx n s4 s5 h = some t → (∀ (s4 : Int32) (s5 : Int32) (h : Hp), kx s4 s5 h = some t → J p l e (rmf 4 89) s m args below meth c 0 0 Z o emb A H0 8 169 [(0, .ref (o.1 0)), (3, .int s3)] [] h) → J p l e (rmf 4 89) s m args below meth c 0 0 Z o emb A H0 8 43 [(0, .ref (o.1 0)), (2, .int s2), (3, .int s3), (4, .int s4), (5, .int s5)] [] h := by
  intro n
  induction n with
  | zero =>
    intro s4 s5 h hf hk
    cases hf
  | succ n ih =>
    intro s4 s5 h hf hk
    rw [f_X6_year_l43] at hf
    refine J_iload X 4 dX6_year_43 rfl ?_
    refine J_iload_n X 1 dX6_year_45 rfl rfl ?_
    refine J_icmp_ge (tgt := 169) X dX6_year_46 (by decide) (fun c46 => ?_) (fun c46 => ?_)
    · rw [if_pos c46] at hf
      exact J_sub [0, 2] rfl (hk s4 s5 h hf)
    · rw [if_neg c46] at hf
      refine J_bipush X (75 : Int32) dX6_year_49 (by decide) ?_
      refine J_iload X 3 dX6_year_51 rfl ?_
      refine J_imul X dX6_year_53 ?_
      refine J_bipush X (74 : Int32) dX6_year_54 (by decide) ?_
      refine J_iadd X dX6_year_56 ?_
      refine J_ldc X wd_839 dX6_year_57 ?_
      refine J_irem X dX6_year_59 (by decide) ?_
      obtain ⟨v5, qv5, hf⟩ := ob hf
      refine J_topi v5 (Option.some.inj qv5) ?_
      refine J_istore X [(4, .int v5), (0, .ref (o.1 0)), (2, .int s2), (3, .int s3), (5, .int s5)] dX6_year_60 (Nat.le_of_ble_eq_true rfl) rfl ?_
      refine J_iload X 0 dX6_year_62 rfl ?_
      refine J_bipush X (6 : Int32) dX6_year_64 (by decide) ?_
      refine J_idiv X dX6_year_66 (by decide) ?_
      refine J_bipush X (8 : Int32) dX6_year_67 (by decide) ?_
      refine J_irem X dX6_year_69 (by decide) ?_
      obtain ⟨v6, qv6, hf⟩ := ob hf
      refine J_topi v6 (Option.some.inj qv6) ?_
      refine J_istore X [(6, .int v6), (4, .int v5), (0, .ref (o.1 0)), (2, .int s2), (3, .int s3), (5, .int s5)] dX6_year_70 (Nat.le_of_ble_eq_true rfl) rfl ?_
      refine J_iload X 1 dX6_year_72 rfl ?_
      refine J_bipush X (48 : Int32) dX6_year_74 (by decide) ?_
      refine J_idiv X dX6_year_76 (by decide) ?_
      obtain ⟨v7, qv7, hf⟩ := ob hf
      refine J_topi v7 (Option.some.inj qv7) ?_
      refine J_istore X [(7, .int v7), (6, .int v6), (4, .int v5), (0, .ref (o.1 0)), (2, .int s2), (3, .int s3), (5, .int s5)] dX6_year_77 (Nat.le_of_ble_eq_true rfl) rfl ?_
      refine J_iload X 1 dX6_year_79 rfl ?_
      refine J_const X (5 : Int32) dX6_year_81 (by decide) ?_
      refine J_icmp_ge (tgt := 106) X dX6_year_82 (by decide) (fun c82 => ?_) (fun c82 => ?_)
      · rw [if_pos c82] at hf
        refine J_iload X 1 dX6_year_106 rfl ?_
        refine J_const X (5 : Int32) dX6_year_108 (by decide) ?_
        refine J_icmp_ne (tgt := 128) X dX6_year_109 (by decide) (fun c109 => ?_) (fun c109 => ?_)
        · rw [if_neg c109] at hf
          refine J_aload_n X 3 dX6_year_128 rfl rfl ?_
          refine J_iload X 1 dX6_year_129 rfl ?_
          refine J_bipush X (6 : Int32) dX6_year_131 (by decide) ?_
          obtain ⟨t9, qt9, hf⟩ := ob hf
          have yk8 : J p l e (rmf 4 89) s m args below meth c 0 0 Z o emb A H0 8 160 [(0, .ref (o.1 0)), (2, .int s2), (3, .int s3), (4, .int v5), (5, .int s5)] [.int t9.1, .ref (o.1 0)] t9.2 := by
            obtain ⟨h10, qh10, hf⟩ := ob hf
            refine J_put X hO.1 inX6 tyX6 tyX6_ok nmX6 rfl 9 (Nat.le_of_ble_eq_true rfl) (by decide) wd_600 rfl rfl (ty := .int) (by decide +kernel) rfl rfl (Nat.le_of_ble_eq_true rfl) dX6_year_160 ?_
            refine J_hp h10 (Option.some.inj qh10) ?_
            obtain ⟨v11, qv11, hf⟩ := ob hf
            refine J_iinc X 4 [(5, .int v11), (0, .ref (o.1 0)), (2, .int s2), (3, .int s3), (4, .int v5)] dX6_year_163 rfl (Option.some.inj qv11) (Nat.le_of_ble_eq_true rfl) rfl ?_
            refine J_goto (tgt := 43) X dX6_year_166 (by decide) ?_
            exact J_sub [1, 2, 3, 4, 0] rfl (ih v5 v11 h10 hf hk)
          clear hf
          have hf := qt9
          clear qt9
          refine J_icmp_ne (tgt := 156) X dX6_year_133 (by decide) (fun c133 => ?_) (fun c133 => ?_)
          · rw [if_neg c133] at hf
            refine J_aload_n X 3 dX6_year_156 rfl rfl ?_
            obtain ⟨t12, qt12, hf⟩ := ob hf
            refine J_callV X (rest := [.ref (o.1 0)]) (rs := [.int t12.1, .ref (o.1 0)]) (c_X6_endDay l o emb A hA hO h t12.1 t12.2 qt12) hO.1 rfl rfl wd_702 wd_704 wd_18 wd_41 wd_705 hd_X6_endDay ⟨Nat.le_of_ble_eq_true rfl, Nat.le_of_ble_eq_true rfl⟩ ⟨Nat.zero_le _, Nat.zero_le _⟩ (Nat.le_of_ble_eq_true rfl) dX6_year_157 rfl rfl ?_
            cases hf
            exact J_sub [3, 4, 5, 2, 6] rfl yk8
          · rw [if_pos c133] at hf
            refine J_aload_n X 3 dX6_year_136 rfl rfl ?_
            refine J_iload X 0 dX6_year_137 rfl ?_
            refine J_bipush X (9 : Int32) dX6_year_139 (by decide) ?_
            refine J_irem X dX6_year_141 (by decide) ?_
            refine J_iload X 0 dX6_year_142 rfl ?_
            refine J_bipush X (9 : Int32) dX6_year_144 (by decide) ?_
            refine J_idiv X dX6_year_146 (by decide) ?_
            refine J_bipush X (9 : Int32) dX6_year_147 (by decide) ?_
            refine J_irem X dX6_year_149 (by decide) ?_
            obtain ⟨t13, qt13, hf⟩ := ob hf
            refine J_callV X (rest := [.ref (o.1 0)]) (rs := [.int t13.1, .ref (o.1 0)]) (c_X6_bring l o emb A hA hO (irem v7 (9 : Int32)) (irem (v7 / (9 : Int32)) (9 : Int32)) h t13.1 t13.2 qt13) hO.1 rfl rfl wd_706 wd_708 wd_19 wd_41 wd_709 hd_X6_bring ⟨Nat.le_of_ble_eq_true rfl, Nat.le_of_ble_eq_true rfl⟩ ⟨Nat.zero_le _, Nat.zero_le _⟩ (Nat.le_of_ble_eq_true rfl) dX6_year_150 rfl rfl ?_
            refine J_goto (tgt := 160) X dX6_year_153 (by decide) ?_
            cases hf
            exact J_sub [3, 4, 5, 2, 6] rfl yk8
        · rw [if_pos c109] at hf
          refine J_aload_n X 3 dX6_year_112 rfl rfl ?_
          refine J_aload_n X 3 dX6_year_113 rfl rfl ?_
          refine J_iload X 2 dX6_year_114 rfl ?_
          refine J_bipush X (6 : Int32) dX6_year_116 (by decide) ?_
          refine J_irem X dX6_year_118 (by decide) ?_
          obtain ⟨t14, qt14, hf⟩ := ob hf
          refine J_callV X (rest := [.ref (o.1 0)]) (rs := [.int t14.1, .ref (o.1 0)]) (c_X6_shoe l o emb A hA hO (irem v5 (6 : Int32)) h t14.1 t14.2 qt14) hO.1 rfl rfl wd_733 wd_735 wd_25 wd_41 wd_736 hd_X6_shoe ⟨Nat.le_of_ble_eq_true rfl, Nat.le_of_ble_eq_true rfl⟩ ⟨Nat.zero_le _, Nat.zero_le _⟩ (Nat.le_of_ble_eq_true rfl) dX6_year_119 rfl rfl ?_
          obtain ⟨h15, qh15, hf⟩ := ob hf
          refine J_put X hO.1 inX6 tyX6 tyX6_ok nmX6 rfl 9 (Nat.le_of_ble_eq_true rfl) (by decide) wd_600 rfl rfl (ty := .int) (by decide +kernel) rfl rfl (Nat.le_of_ble_eq_true rfl) dX6_year_122 ?_
          refine J_hp h15 (Option.some.inj qh15) ?_
          refine J_goto (tgt := 163) X dX6_year_125 (by decide) ?_
          obtain ⟨v16, qv16, hf⟩ := ob hf
          refine J_iinc X 6 [(5, .int v16), (7, .int v7), (6, .int v6), (4, .int v5), (0, .ref (o.1 0)), (2, .int s2), (3, .int s3)] dX6_year_163 rfl (Option.some.inj qv16) (Nat.le_of_ble_eq_true rfl) rfl ?_
          refine J_goto (tgt := 43) X dX6_year_166 (by decide) ?_
          exact J_sub [4, 5, 6, 3, 0] rfl (ih v5 v16 h15 hf hk)
      · rw [if_neg c82] at hf
        refine J_aload_n X 3 dX6_year_85 rfl rfl ?_
        refine J_aload_n X 3 dX6_year_86 rfl rfl ?_
        refine J_iload X 2 dX6_year_87 rfl ?_
        refine J_bipush X (6 : Int32) dX6_year_89 (by decide) ?_
        refine J_irem X dX6_year_91 (by decide) ?_
        refine J_iload X 0 dX6_year_92 rfl ?_
        refine J_bipush X (9 : Int32) dX6_year_94 (by decide) ?_
        refine J_irem X dX6_year_96 (by decide) ?_
        obtain ⟨t17, qt17, hf⟩ := ob hf
        refine J_callV X (rest := [.ref (o.1 0)]) (rs := [.int t17.1, .ref (o.1 0)]) (c_X6_walk l o emb A hA hO (irem v5 (6 : Int32)) (irem v7 (9 : Int32)) h t17.1 t17.2 qt17) hO.1 rfl rfl wd_722 wd_724 wd_23 wd_41 wd_725 hd_X6_walk ⟨Nat.le_of_ble_eq_true rfl, Nat.le_of_ble_eq_true rfl⟩ ⟨Nat.zero_le _, Nat.zero_le _⟩ (Nat.le_of_ble_eq_true rfl) dX6_year_97 rfl rfl ?_
        obtain ⟨h18, qh18, hf⟩ := ob hf
        refine J_put X hO.1 inX6 tyX6 tyX6_ok nmX6 rfl 9 (Nat.le_of_ble_eq_true rfl) (by decide) wd_600 rfl rfl (ty := .int) (by decide +kernel) rfl rfl (Nat.le_of_ble_eq_true rfl) dX6_year_100 ?_
        refine J_hp h18 (Option.some.inj qh18) ?_
        refine J_goto (tgt := 163) X dX6_year_103 (by decide) ?_
        obtain ⟨v19, qv19, hf⟩ := ob hf
        refine J_iinc X 6 [(5, .int v19), (7, .int v7), (6, .int v6), (4, .int v5), (0, .ref (o.1 0)), (2, .int s2), (3, .int s3)] dX6_year_163 rfl (Option.some.inj qv19) (Nat.le_of_ble_eq_true rfl) rfl ?_
        refine J_goto (tgt := 43) X dX6_year_166 (by decide) ?_
        exact J_sub [4, 5, 6, 3, 0] rfl (ih v5 v19 h18 hf hk)
set_option maxHeartbeats 4000000 in
set_option maxRecDepth 100000 in
theorem cf_X6_year_l175 {R : Type} (hA : ∀ h : Hp, va_D A (emb h)) (X : Cx p s m args meth c RX6 cX6_year 8 (some .int) o)  (hO : isX6 o emb) (s3 : Int32) (h : Hp) {kx : Int32 → Int32 → Option R} (t : R) : ∀ (n : Nat) (s5 : Int32) (s6 : Int32), f_X6_year_l175 s3 h kx n s5 s6 = some t → (∀ (s5 : Int32) (s6 : Int32), kx s5 s6 = some t → J p l e (rmf 4 89) s m args below meth c 0 0 Z o emb A H0 8 202 [(0, .ref (o.1 0)), (3, .int s3), (5, .int s5)] [] h) → J p l e (rmf 4 89) s m args below meth c 0 0 Z o emb A H0 8 175 [(0, .ref (o.1 0)), (3, .int s3), (5, .int s5), (6, .int s6)] [] h := by
  intro n
  induction n with
  | zero =>
    intro s5 s6 hf hk
    cases hf
  | succ n ih =>
    intro s5 s6 hf hk
    rw [f_X6_year_l175] at hf
    refine J_iload X 3 dX6_year_175 rfl ?_
    refine J_bipush X (9 : Int32) dX6_year_177 (by decide) ?_
    refine J_icmp_ge (tgt := 202) X dX6_year_179 (by decide) (fun c179 => ?_) (fun c179 => ?_)
    · rw [if_pos c179] at hf
      exact J_sub [0, 1, 2] rfl (hk s5 s6 hf)
    · rw [if_neg c179] at hf
      refine J_iload X 2 dX6_year_182 rfl ?_
      refine J_aload_n X 0 dX6_year_184 rfl rfl ?_
      refine J_iload X 3 dX6_year_185 rfl ?_
      obtain ⟨v23, qv23, hf⟩ := ob hf
      refine J_callV X (rest := [.int s5]) (rs := [.int v23, .int s5]) (c_X6_openFrom l o emb A hA hO s6 h v23 qv23) hO.1 rfl rfl wd_765 wd_767 wd_29 wd_41 wd_768 hd_X6_openFrom ⟨Nat.le_of_ble_eq_true rfl, Nat.le_of_ble_eq_true rfl⟩ ⟨Nat.zero_le _, Nat.zero_le _⟩ (Nat.le_of_ble_eq_true rfl) dX6_year_187 rfl rfl ?_
      obtain ⟨v24, qv24, hf⟩ := ob hf
      refine J_callS X (rest := [.int s5]) (rs := [.int v24, .int s5]) (c_X6_bits l o emb A hA v23 h v24 qv24) wd_675 wd_676 wd_41 wd_677 hd_X6_bits ⟨Nat.le_of_ble_eq_true rfl, Nat.le_of_ble_eq_true rfl⟩ ⟨Nat.zero_le _, Nat.zero_le _⟩ (Nat.le_of_ble_eq_true rfl) dX6_year_190 rfl rfl ?_
      refine J_iadd X dX6_year_193 ?_
      obtain ⟨v25, qv25, hf⟩ := ob hf
      refine J_topi v25 (Option.some.inj qv25) ?_
      refine J_istore X [(5, .int v25), (0, .ref (o.1 0)), (3, .int s3), (6, .int s6)] dX6_year_194 (Nat.le_of_ble_eq_true rfl) rfl ?_
      obtain ⟨v26, qv26, hf⟩ := ob hf
      refine J_iinc X 3 [(6, .int v26), (5, .int v25), (0, .ref (o.1 0)), (3, .int s3)] dX6_year_196 rfl (Option.some.inj qv26) (Nat.le_of_ble_eq_true rfl) rfl ?_
      refine J_goto (tgt := 175) X dX6_year_199 (by decide) ?_
      exact J_sub [2, 3, 1, 0] rfl (ih v25 v26 hf hk)
set_option maxHeartbeats 4000000 in
set_option maxRecDepth 100000 in
theorem c_X6_year (l : Launch) (o : Om) (emb : Hp → va_W) (A : Nat → Prop) (hA : ∀ h : Hp, va_D A (emb h)) (hO : isX6 o emb) (x1 : Int32) (x2 : Int32) (x3 : Int32) (h : Hp) (r : Int32) (h' : Hp) (hf : f_X6_year x1 x2 x3 h = some (r, h')) : Ct l o emb A yX6_year cX6_year 8 (some .int) 4 89 [.ref (o.1 0), .int x1, .int x2, .int x3] h (some (.int r)) h' := by
  refine Ct.of RX6 rfl (by decide +kernel) hA (Nat.le_of_ble_eq_true rfl) (fun p e s m args below meth c X => ?_)
  refine J_sub (lo' := [(0, .ref (o.1 0)), (1, .int x1), (2, .int x2), (3, .int x3)]) [0, 1, 2, 3] rfl ?_
  rw [f_X6_year] at hf
  refine J_iload_n X 1 dX6_year_0 rfl rfl ?_
  refine J_const X (0 : Int32) dX6_year_1 (by decide) ?_
  refine J_sipush X (9999 : Int32) dX6_year_2 (by decide) ?_
  obtain ⟨v1, qv1, hf⟩ := ob hf
  refine J_callS X (rest := []) (rs := [.int v1]) (c_X6_in l o emb A hA x1 (0 : Int32) (9999 : Int32) h v1 qv1) wd_660 wd_661 wd_41 wd_662 hd_X6_in ⟨Nat.le_of_ble_eq_true rfl, Nat.le_of_ble_eq_true rfl⟩ ⟨Nat.zero_le _, Nat.zero_le _⟩ (Nat.le_of_ble_eq_true rfl) dX6_year_5 rfl rfl ?_
  refine J_if_eq (tgt := 30) X dX6_year_8 (by decide) (fun c8 => ?_) (fun c8 => ?_)
  · rw [if_pos c8] at hf
    refine J_bipush X (-2 : Int32) dX6_year_30 (by decide) ?_
    cases hf
    exact J_iret X dX6_year_32
  · rw [if_neg c8] at hf
    refine J_iload_n X 2 dX6_year_11 rfl rfl ?_
    refine J_const X (1 : Int32) dX6_year_12 (by decide) ?_
    refine J_bipush X (99 : Int32) dX6_year_13 (by decide) ?_
    obtain ⟨v2, qv2, hf⟩ := ob hf
    refine J_callS X (rest := []) (rs := [.int v2]) (c_X6_in l o emb A hA x2 (1 : Int32) (99 : Int32) h v2 qv2) wd_660 wd_661 wd_41 wd_662 hd_X6_in ⟨Nat.le_of_ble_eq_true rfl, Nat.le_of_ble_eq_true rfl⟩ ⟨Nat.zero_le _, Nat.zero_le _⟩ (Nat.le_of_ble_eq_true rfl) dX6_year_15 rfl rfl ?_
    refine J_if_eq (tgt := 30) X dX6_year_18 (by decide) (fun c18 => ?_) (fun c18 => ?_)
    · rw [if_pos c18] at hf
      refine J_bipush X (-2 : Int32) dX6_year_30 (by decide) ?_
      cases hf
      exact J_iret X dX6_year_32
    · rw [if_neg c18] at hf
      refine J_iload_n X 3 dX6_year_21 rfl rfl ?_
      refine J_const X (0 : Int32) dX6_year_22 (by decide) ?_
      refine J_const X (2 : Int32) dX6_year_23 (by decide) ?_
      obtain ⟨v3, qv3, hf⟩ := ob hf
      refine J_callS X (rest := []) (rs := [.int v3]) (c_X6_in l o emb A hA x3 (0 : Int32) (2 : Int32) h v3 qv3) wd_660 wd_661 wd_41 wd_662 hd_X6_in ⟨Nat.le_of_ble_eq_true rfl, Nat.le_of_ble_eq_true rfl⟩ ⟨Nat.zero_le _, Nat.zero_le _⟩ (Nat.le_of_ble_eq_true rfl) dX6_year_24 rfl rfl ?_
      refine J_if_ne (tgt := 33) X dX6_year_27 (by decide) (fun c27 => ?_) (fun c27 => ?_)
      · rw [if_neg c27] at hf
        refine J_aload_n X 0 dX6_year_33 rfl rfl ?_
        obtain ⟨h4, qh4, hf⟩ := ob hf
        refine J_callV X (rest := []) (rs := []) (c_X6_asNow l o emb A hA hO h h4 qh4) hO.1 rfl rfl wd_663 wd_665 wd_14 wd_41 wd_666 hd_X6_asNow ⟨Nat.le_of_ble_eq_true rfl, Nat.le_of_ble_eq_true rfl⟩ ⟨Nat.zero_le _, Nat.zero_le _⟩ (Nat.le_of_ble_eq_true rfl) dX6_year_34 rfl rfl ?_
        refine J_iload_n X 1 dX6_year_37 rfl rfl ?_
        refine J_istore X [(4, .int x1), (0, .ref (o.1 0)), (1, .int x1), (2, .int x2), (3, .int x3)] dX6_year_38 (Nat.le_of_ble_eq_true rfl) rfl ?_
        refine J_const X (0 : Int32) dX6_year_40 (by decide) ?_
        refine J_istore X [(5, .int (0 : Int32)), (4, .int x1), (0, .ref (o.1 0)), (1, .int x1), (2, .int x2), (3, .int x3)] dX6_year_41 (Nat.le_of_ble_eq_true rfl) rfl ?_
        refine J_sub (lo' := [(0, .ref (o.1 0)), (2, .int x2), (3, .int x3), (4, .int x1), (5, .int (0 : Int32))]) [2, 4, 5, 1, 0] rfl ?_
        refine cf_X6_year_l43 hA X  hO x2 x3 _ _ x1 (0 : Int32) h4 hf (fun w20 w21 h22 hf => ?_)
        refine J_const X (0 : Int32) dX6_year_169 (by decide) ?_
        refine J_istore X [(5, .int (0 : Int32)), (0, .ref (o.1 0)), (3, .int x3)] dX6_year_170 (Nat.le_of_ble_eq_true rfl) rfl ?_
        refine J_const X (0 : Int32) dX6_year_172 (by decide) ?_
        refine J_istore X [(6, .int (0 : Int32)), (5, .int (0 : Int32)), (0, .ref (o.1 0)), (3, .int x3)] dX6_year_173 (Nat.le_of_ble_eq_true rfl) rfl ?_
        refine J_sub (lo' := [(0, .ref (o.1 0)), (3, .int x3), (5, .int (0 : Int32)), (6, .int (0 : Int32))]) [2, 3, 1, 0] rfl ?_
        refine cf_X6_year_l175 hA X  hO x3 h22 _ _ (0 : Int32) (0 : Int32) hf (fun w27 w28 hf => ?_)
        refine J_iload_n X 1 dX6_year_202 rfl rfl ?_
        refine J_if_ne (tgt := 213) X dX6_year_203 (by decide) (fun c203 => ?_) (fun c203 => ?_)
        · rw [if_neg c203] at hf
          refine J_iload_n X 1 dX6_year_213 rfl rfl ?_
          refine J_const X (1 : Int32) dX6_year_214 (by decide) ?_
          refine J_icmp_ne (tgt := 228) X dX6_year_215 (by decide) (fun c215 => ?_) (fun c215 => ?_)
          · rw [if_neg c215] at hf
            refine J_iload X 2 dX6_year_228 rfl ?_
            refine J_const X (2 : Int32) dX6_year_230 (by decide) ?_
            refine J_idiv X dX6_year_231 (by decide) ?_
            cases hf
            exact J_iret X dX6_year_232
          · rw [if_pos c215] at hf
            refine J_aload_n X 0 dX6_year_218 rfl rfl ?_
            obtain ⟨v29, qv29, hf⟩ := ob hf
            refine J_callV X (rest := []) (rs := [.int v29]) (c_X6_shutIn l o emb A hA hO h22 v29 qv29) hO.1 rfl rfl wd_761 wd_763 wd_28 wd_41 wd_764 hd_X6_shutIn ⟨Nat.le_of_ble_eq_true rfl, Nat.le_of_ble_eq_true rfl⟩ ⟨Nat.zero_le _, Nat.zero_le _⟩ (Nat.le_of_ble_eq_true rfl) dX6_year_219 rfl rfl ?_
            obtain ⟨v30, qv30, hf⟩ := ob hf
            refine J_callS X (rest := []) (rs := [.int v30]) (c_X6_bits l o emb A hA v29 h22 v30 qv30) wd_675 wd_676 wd_41 wd_677 hd_X6_bits ⟨Nat.le_of_ble_eq_true rfl, Nat.le_of_ble_eq_true rfl⟩ ⟨Nat.zero_le _, Nat.zero_le _⟩ (Nat.le_of_ble_eq_true rfl) dX6_year_222 rfl rfl ?_
            refine J_goto (tgt := 232) X dX6_year_225 (by decide) ?_
            cases hf
            exact J_iret X dX6_year_232
        · rw [if_pos c203] at hf
          refine J_aload_n X 0 dX6_year_206 rfl rfl ?_
          obtain ⟨v31, qv31, hf⟩ := ob hf
          refine J_callV X (rest := []) (rs := [.int v31]) (c_X6_wearOf l o emb A hA hO h22 v31 qv31) hO.1 rfl rfl wd_757 wd_759 wd_27 wd_41 wd_760 hd_X6_wearOf ⟨Nat.le_of_ble_eq_true rfl, Nat.le_of_ble_eq_true rfl⟩ ⟨Nat.zero_le _, Nat.zero_le _⟩ (Nat.le_of_ble_eq_true rfl) dX6_year_207 rfl rfl ?_
          refine J_goto (tgt := 232) X dX6_year_210 (by decide) ?_
          cases hf
          exact J_iret X dX6_year_232
      · rw [if_pos c27] at hf
        refine J_bipush X (-2 : Int32) dX6_year_30 (by decide) ?_
        cases hf
        exact J_iret X dX6_year_32
theorem hd_X6_image : yX6_image.cls ≠ "java/lang/invoke/MethodHandle" ∧ yX6_image.cls ≠ "java/lang/invoke/VarHandle" ∧ (parseMethodDescriptor yX6_image.desc).map (fun d => d.parameters.length) = some 1 := by decide +kernel
set_option maxHeartbeats 4000000 in
set_option maxRecDepth 100000 in
theorem cf_X6_image_l19 {R : Type} (hA : ∀ h : Hp, va_D A (emb h)) (X : Cx p s m args meth c RX6 cX6_image 4 (some .int) o)  (hO : isX6 o emb) (s1 : Int32) (s2 : Int32) {kx : Int32 → Hp → Option R} (t : R) : ∀ (n : Nat) (s3 : Int32) (h : Hp), f_X6_image_l19 s1 s2 kx n s3 h = some t → (∀ (s3 : Int32) (h : Hp), kx s3 h = some t → J p l e (rmf 1 22) s m args below meth c 0 0 Z o emb A H0 4 45 [(0, .ref (o.1 0)), (1, .int s1), (2, .int s2)] [] h) → J p l e (rmf 1 22) s m args below meth c 0 0 Z o emb A H0 4 19 [(0, .ref (o.1 0)), (1, .int s1), (2, .int s2), (3, .int s3)] [] h := by
  intro n
  induction n with
  | zero =>
    intro s3 h hf hk
    cases hf
  | succ n ih =>
    intro s3 h hf hk
    rw [f_X6_image_l19] at hf
    refine J_iload_n X 3 dX6_image_19 rfl rfl ?_
    refine J_bipush X (89 : Int32) dX6_image_20 (by decide) ?_
    refine J_icmp_ge (tgt := 45) X dX6_image_22 (by decide) (fun c22 => ?_) (fun c22 => ?_)
    · rw [if_pos c22] at hf
      exact J_sub [0, 1, 2] rfl (hk s3 h hf)
    · rw [if_neg c22] at hf
      refine J_aload_n X 0 dX6_image_25 rfl rfl ?_
      refine J_get X hO.1 inX6 rfl 18 (Nat.le_of_ble_eq_true rfl) wd_609 rfl (v := .ref (o.1 12)) rfl dX6_image_26 ?_
      refine J_iload_n X 2 dX6_image_29 rfl rfl ?_
      refine J_iload_n X 3 dX6_image_30 rfl rfl ?_
      refine J_iadd X dX6_image_31 ?_
      refine J_aload_n X 0 dX6_image_32 rfl rfl ?_
      refine J_get X hO.1 inX6 rfl 0 (Nat.le_of_ble_eq_true rfl) wd_591 rfl (v := .ref (o.1 1)) rfl dX6_image_33 ?_
      refine J_iload_n X 3 dX6_image_36 rfl rfl ?_
      obtain ⟨v3, qv3, hf⟩ := ob hf
      refine J_iald X hO.2.1 (ald_s qv3).1 dX6_image_37 ?_
      refine J_topi v3 (ald_s qv3).2 ?_
      obtain ⟨h4, qh4, hf⟩ := ob hf
      refine J_iast X hO.2.2.2.2.2.2.2.2.2.2.2.2.1 (ast_s qh4).1 dX6_image_38 ?_
      refine J_hp h4 (ast_s qh4).2 ?_
      obtain ⟨v5, qv5, hf⟩ := ob hf
      refine J_iinc X 3 [(3, .int v5), (0, .ref (o.1 0)), (1, .int s1), (2, .int s2)] dX6_image_39 rfl (Option.some.inj qv5) (Nat.le_of_ble_eq_true rfl) rfl ?_
      refine J_goto (tgt := 19) X dX6_image_42 (by decide) ?_
      exact J_sub [1, 2, 3, 0] rfl (ih v5 h4 hf hk)
set_option maxHeartbeats 4000000 in
set_option maxRecDepth 100000 in
theorem cf_X6_image_l47 {R : Type} (hA : ∀ h : Hp, va_D A (emb h)) (X : Cx p s m args meth c RX6 cX6_image 4 (some .int) o)  (hO : isX6 o emb) (s1 : Int32) (s2 : Int32) {kx : Int32 → Hp → Option R} (t : R) : ∀ (n : Nat) (s3 : Int32) (h : Hp), f_X6_image_l47 s1 s2 kx n s3 h = some t → (∀ (s3 : Int32) (h : Hp), kx s3 h = some t → J p l e (rmf 1 22) s m args below meth c 0 0 Z o emb A H0 4 76 [(0, .ref (o.1 0)), (1, .int s1), (2, .int s2)] [] h) → J p l e (rmf 1 22) s m args below meth c 0 0 Z o emb A H0 4 47 [(0, .ref (o.1 0)), (1, .int s1), (2, .int s2), (3, .int s3)] [] h := by
  intro n
  induction n with
  | zero =>
    intro s3 h hf hk
    cases hf
  | succ n ih =>
    intro s3 h hf hk
    rw [f_X6_image_l47] at hf
    refine J_iload_n X 3 dX6_image_47 rfl rfl ?_
    refine J_bipush X (24 : Int32) dX6_image_48 (by decide) ?_
    refine J_icmp_ge (tgt := 76) X dX6_image_50 (by decide) (fun c50 => ?_) (fun c50 => ?_)
    · rw [if_pos c50] at hf
      exact J_sub [0, 1, 2] rfl (hk s3 h hf)
    · rw [if_neg c50] at hf
      refine J_aload_n X 0 dX6_image_53 rfl rfl ?_
      refine J_get X hO.1 inX6 rfl 18 (Nat.le_of_ble_eq_true rfl) wd_609 rfl (v := .ref (o.1 12)) rfl dX6_image_54 ?_
      refine J_iload_n X 2 dX6_image_57 rfl rfl ?_
      refine J_bipush X (89 : Int32) dX6_image_58 (by decide) ?_
      refine J_iadd X dX6_image_60 ?_
      refine J_iload_n X 3 dX6_image_61 rfl rfl ?_
      refine J_iadd X dX6_image_62 ?_
      refine J_aload_n X 0 dX6_image_63 rfl rfl ?_
      refine J_get X hO.1 inX6 rfl 4 (Nat.le_of_ble_eq_true rfl) wd_595 rfl (v := .ref (o.1 3)) rfl dX6_image_64 ?_
      refine J_iload_n X 3 dX6_image_67 rfl rfl ?_
      obtain ⟨v8, qv8, hf⟩ := ob hf
      refine J_iald X hO.2.2.2.1 (ald_s qv8).1 dX6_image_68 ?_
      refine J_topi v8 (ald_s qv8).2 ?_
      obtain ⟨h9, qh9, hf⟩ := ob hf
      refine J_iast X hO.2.2.2.2.2.2.2.2.2.2.2.2.1 (ast_s qh9).1 dX6_image_69 ?_
      refine J_hp h9 (ast_s qh9).2 ?_
      obtain ⟨v10, qv10, hf⟩ := ob hf
      refine J_iinc X 3 [(3, .int v10), (0, .ref (o.1 0)), (1, .int s1), (2, .int s2)] dX6_image_70 rfl (Option.some.inj qv10) (Nat.le_of_ble_eq_true rfl) rfl ?_
      refine J_goto (tgt := 47) X dX6_image_73 (by decide) ?_
      exact J_sub [1, 2, 3, 0] rfl (ih v10 h9 hf hk)
set_option maxHeartbeats 4000000 in
set_option maxRecDepth 100000 in
theorem c_X6_image (l : Launch) (o : Om) (emb : Hp → va_W) (A : Nat → Prop) (hA : ∀ h : Hp, va_D A (emb h)) (hO : isX6 o emb) (x1 : Int32) (h : Hp) (r : Int32) (h' : Hp) (hf : f_X6_image x1 h = some (r, h')) : Ct l o emb A yX6_image cX6_image 4 (some .int) 1 22 [.ref (o.1 0), .int x1] h (some (.int r)) h' := by
  refine Ct.of RX6 rfl (by decide +kernel) hA (Nat.le_of_ble_eq_true rfl) (fun p e s m args below meth c X => ?_)
  refine J_sub (lo' := [(0, .ref (o.1 0)), (1, .int x1)]) [0, 1] rfl ?_
  rw [f_X6_image] at hf
  refine J_iload_n X 1 dX6_image_0 rfl rfl ?_
  refine J_const X (0 : Int32) dX6_image_1 (by decide) ?_
  refine J_const X (1 : Int32) dX6_image_2 (by decide) ?_
  obtain ⟨v1, qv1, hf⟩ := ob hf
  refine J_callS X (rest := []) (rs := [.int v1]) (c_X6_in l o emb A hA x1 (0 : Int32) (1 : Int32) h v1 qv1) wd_660 wd_661 wd_41 wd_662 hd_X6_in ⟨Nat.le_of_ble_eq_true rfl, Nat.le_of_ble_eq_true rfl⟩ ⟨Nat.zero_le _, Nat.zero_le _⟩ (Nat.le_of_ble_eq_true rfl) dX6_image_3 rfl rfl ?_
  refine J_if_ne (tgt := 12) X dX6_image_6 (by decide) (fun c6 => ?_) (fun c6 => ?_)
  · rw [if_neg c6] at hf
    refine J_bipush X (120 : Int32) dX6_image_12 (by decide) ?_
    refine J_iload_n X 1 dX6_image_14 rfl rfl ?_
    refine J_imul X dX6_image_15 ?_
    obtain ⟨v2, qv2, hf⟩ := ob hf
    refine J_topi v2 (Option.some.inj qv2) ?_
    refine J_istore_n X [(2, .int v2), (0, .ref (o.1 0)), (1, .int x1)] dX6_image_16 rfl (Nat.le_of_ble_eq_true rfl) rfl ?_
    refine J_const X (0 : Int32) dX6_image_17 (by decide) ?_
    refine J_istore_n X [(3, .int (0 : Int32)), (2, .int v2), (0, .ref (o.1 0)), (1, .int x1)] dX6_image_18 rfl (Nat.le_of_ble_eq_true rfl) rfl ?_
    refine J_sub (lo' := [(0, .ref (o.1 0)), (1, .int x1), (2, .int v2), (3, .int (0 : Int32))]) [2, 3, 1, 0] rfl ?_
    refine cf_X6_image_l19 hA X  hO x1 v2 _ _ (0 : Int32) h hf (fun w6 h7 hf => ?_)
    refine J_const X (0 : Int32) dX6_image_45 (by decide) ?_
    refine J_istore_n X [(3, .int (0 : Int32)), (0, .ref (o.1 0)), (1, .int x1), (2, .int v2)] dX6_image_46 rfl (Nat.le_of_ble_eq_true rfl) rfl ?_
    refine J_sub (lo' := [(0, .ref (o.1 0)), (1, .int x1), (2, .int v2), (3, .int (0 : Int32))]) [1, 2, 3, 0] rfl ?_
    refine cf_X6_image_l47 hA X  hO x1 v2 _ _ (0 : Int32) h7 hf (fun w11 h12 hf => ?_)
    refine J_aload_n X 0 dX6_image_76 rfl rfl ?_
    refine J_get X hO.1 inX6 rfl 18 (Nat.le_of_ble_eq_true rfl) wd_609 rfl (v := .ref (o.1 12)) rfl dX6_image_77 ?_
    refine J_iload_n X 2 dX6_image_80 rfl rfl ?_
    refine J_bipush X (115 : Int32) dX6_image_81 (by decide) ?_
    refine J_iadd X dX6_image_83 ?_
    refine J_aload_n X 0 dX6_image_84 rfl rfl ?_
    refine J_get X hO.1 inX6 rfl 2 (Nat.le_of_ble_eq_true rfl) wd_593 rfl (v := .int (h12.1 0 2)) rfl dX6_image_85 ?_
    obtain ⟨h13, qh13, hf⟩ := ob hf
    refine J_iast X hO.2.2.2.2.2.2.2.2.2.2.2.2.1 (ast_s qh13).1 dX6_image_88 ?_
    refine J_hp h13 (ast_s qh13).2 ?_
    refine J_aload_n X 0 dX6_image_89 rfl rfl ?_
    refine J_get X hO.1 inX6 rfl 18 (Nat.le_of_ble_eq_true rfl) wd_609 rfl (v := .ref (o.1 12)) rfl dX6_image_90 ?_
    refine J_iload_n X 2 dX6_image_93 rfl rfl ?_
    refine J_bipush X (116 : Int32) dX6_image_94 (by decide) ?_
    refine J_iadd X dX6_image_96 ?_
    refine J_aload_n X 0 dX6_image_97 rfl rfl ?_
    refine J_get X hO.1 inX6 rfl 3 (Nat.le_of_ble_eq_true rfl) wd_594 rfl (v := .int (h13.1 0 3)) rfl dX6_image_98 ?_
    obtain ⟨h14, qh14, hf⟩ := ob hf
    refine J_iast X hO.2.2.2.2.2.2.2.2.2.2.2.2.1 (ast_s qh14).1 dX6_image_101 ?_
    refine J_hp h14 (ast_s qh14).2 ?_
    refine J_aload_n X 0 dX6_image_102 rfl rfl ?_
    refine J_get X hO.1 inX6 rfl 19 (Nat.le_of_ble_eq_true rfl) wd_610 rfl (v := .ref (o.1 13)) rfl dX6_image_103 ?_
    refine J_iload_n X 1 dX6_image_106 rfl rfl ?_
    refine J_const X (1 : Int32) dX6_image_107 (by decide) ?_
    obtain ⟨h15, qh15, hf⟩ := ob hf
    refine J_zast X hO.2.2.2.2.2.2.2.2.2.2.2.2.2 (zast_s qh15).1 (zast_s qh15).2.1 dX6_image_108 ?_
    refine J_hp h15 (zast_s qh15).2.2 ?_
    refine J_const X (1 : Int32) dX6_image_109 (by decide) ?_
    cases hf
    exact J_iret X dX6_image_110
  · rw [if_pos c6] at hf
    refine J_bipush X (-2 : Int32) dX6_image_9 (by decide) ?_
    cases hf
    exact J_iret X dX6_image_11
theorem hd_X6_restore : yX6_restore.cls ≠ "java/lang/invoke/MethodHandle" ∧ yX6_restore.cls ≠ "java/lang/invoke/VarHandle" ∧ (parseMethodDescriptor yX6_restore.desc).map (fun d => d.parameters.length) = some 1 := by decide +kernel
set_option maxHeartbeats 4000000 in
set_option maxRecDepth 100000 in
theorem cf_X6_restore_l31 {R : Type} (hA : ∀ h : Hp, va_D A (emb h)) (X : Cx p s m args meth c RX6 cX6_restore 4 (some .int) o)  (hO : isX6 o emb) (s2 : Int32) {kx : Int32 → Hp → Option R} (t : R) : ∀ (n : Nat) (s3 : Int32) (h : Hp), f_X6_restore_l31 s2 kx n s3 h = some t → (∀ (s3 : Int32) (h : Hp), kx s3 h = some t → J p l e (rmf 1 22) s m args below meth c 0 0 Z o emb A H0 4 57 [(0, .ref (o.1 0)), (2, .int s2)] [] h) → J p l e (rmf 1 22) s m args below meth c 0 0 Z o emb A H0 4 31 [(0, .ref (o.1 0)), (2, .int s2), (3, .int s3)] [] h := by
  intro n
  induction n with
  | zero =>
    intro s3 h hf hk
    cases hf
  | succ n ih =>
    intro s3 h hf hk
    rw [f_X6_restore_l31] at hf
    refine J_iload_n X 2 dX6_restore_31 rfl rfl ?_
    refine J_bipush X (89 : Int32) dX6_restore_32 (by decide) ?_
    refine J_icmp_ge (tgt := 57) X dX6_restore_34 (by decide) (fun c34 => ?_) (fun c34 => ?_)
    · rw [if_pos c34] at hf
      exact J_sub [0, 1] rfl (hk s3 h hf)
    · rw [if_neg c34] at hf
      refine J_aload_n X 0 dX6_restore_37 rfl rfl ?_
      refine J_get X hO.1 inX6 rfl 0 (Nat.le_of_ble_eq_true rfl) wd_591 rfl (v := .ref (o.1 1)) rfl dX6_restore_38 ?_
      refine J_iload_n X 2 dX6_restore_41 rfl rfl ?_
      refine J_aload_n X 0 dX6_restore_42 rfl rfl ?_
      refine J_get X hO.1 inX6 rfl 18 (Nat.le_of_ble_eq_true rfl) wd_609 rfl (v := .ref (o.1 12)) rfl dX6_restore_43 ?_
      refine J_iload_n X 1 dX6_restore_46 rfl rfl ?_
      refine J_iload_n X 2 dX6_restore_47 rfl rfl ?_
      refine J_iadd X dX6_restore_48 ?_
      obtain ⟨v4, qv4, hf⟩ := ob hf
      refine J_iald X hO.2.2.2.2.2.2.2.2.2.2.2.2.1 (ald_s qv4).1 dX6_restore_49 ?_
      refine J_topi v4 (ald_s qv4).2 ?_
      obtain ⟨h5, qh5, hf⟩ := ob hf
      refine J_iast X hO.2.1 (ast_s qh5).1 dX6_restore_50 ?_
      refine J_hp h5 (ast_s qh5).2 ?_
      obtain ⟨v6, qv6, hf⟩ := ob hf
      refine J_iinc X 2 [(3, .int v6), (0, .ref (o.1 0)), (2, .int s2)] dX6_restore_51 rfl (Option.some.inj qv6) (Nat.le_of_ble_eq_true rfl) rfl ?_
      refine J_goto (tgt := 31) X dX6_restore_54 (by decide) ?_
      exact J_sub [1, 2, 0] rfl (ih v6 h5 hf hk)
set_option maxHeartbeats 4000000 in
set_option maxRecDepth 100000 in
theorem cf_X6_restore_l59 {R : Type} (hA : ∀ h : Hp, va_D A (emb h)) (X : Cx p s m args meth c RX6 cX6_restore 4 (some .int) o)  (hO : isX6 o emb) (s2 : Int32) {kx : Int32 → Hp → Option R} (t : R) : ∀ (n : Nat) (s3 : Int32) (h : Hp), f_X6_restore_l59 s2 kx n s3 h = some t → (∀ (s3 : Int32) (h : Hp), kx s3 h = some t → J p l e (rmf 1 22) s m args below meth c 0 0 Z o emb A H0 4 88 [(0, .ref (o.1 0)), (2, .int s2)] [] h) → J p l e (rmf 1 22) s m args below meth c 0 0 Z o emb A H0 4 59 [(0, .ref (o.1 0)), (2, .int s2), (3, .int s3)] [] h := by
  intro n
  induction n with
  | zero =>
    intro s3 h hf hk
    cases hf
  | succ n ih =>
    intro s3 h hf hk
    rw [f_X6_restore_l59] at hf
    refine J_iload_n X 2 dX6_restore_59 rfl rfl ?_
    refine J_bipush X (24 : Int32) dX6_restore_60 (by decide) ?_
    refine J_icmp_ge (tgt := 88) X dX6_restore_62 (by decide) (fun c62 => ?_) (fun c62 => ?_)
    · rw [if_pos c62] at hf
      exact J_sub [0, 1] rfl (hk s3 h hf)
    · rw [if_neg c62] at hf
      refine J_aload_n X 0 dX6_restore_65 rfl rfl ?_
      refine J_get X hO.1 inX6 rfl 4 (Nat.le_of_ble_eq_true rfl) wd_595 rfl (v := .ref (o.1 3)) rfl dX6_restore_66 ?_
      refine J_iload_n X 2 dX6_restore_69 rfl rfl ?_
      refine J_aload_n X 0 dX6_restore_70 rfl rfl ?_
      refine J_get X hO.1 inX6 rfl 18 (Nat.le_of_ble_eq_true rfl) wd_609 rfl (v := .ref (o.1 12)) rfl dX6_restore_71 ?_
      refine J_iload_n X 1 dX6_restore_74 rfl rfl ?_
      refine J_bipush X (89 : Int32) dX6_restore_75 (by decide) ?_
      refine J_iadd X dX6_restore_77 ?_
      refine J_iload_n X 2 dX6_restore_78 rfl rfl ?_
      refine J_iadd X dX6_restore_79 ?_
      obtain ⟨v9, qv9, hf⟩ := ob hf
      refine J_iald X hO.2.2.2.2.2.2.2.2.2.2.2.2.1 (ald_s qv9).1 dX6_restore_80 ?_
      refine J_topi v9 (ald_s qv9).2 ?_
      obtain ⟨h10, qh10, hf⟩ := ob hf
      refine J_iast X hO.2.2.2.1 (ast_s qh10).1 dX6_restore_81 ?_
      refine J_hp h10 (ast_s qh10).2 ?_
      obtain ⟨v11, qv11, hf⟩ := ob hf
      refine J_iinc X 2 [(3, .int v11), (0, .ref (o.1 0)), (2, .int s2)] dX6_restore_82 rfl (Option.some.inj qv11) (Nat.le_of_ble_eq_true rfl) rfl ?_
      refine J_goto (tgt := 59) X dX6_restore_85 (by decide) ?_
      exact J_sub [1, 2, 0] rfl (ih v11 h10 hf hk)
set_option maxHeartbeats 4000000 in
set_option maxRecDepth 100000 in
theorem c_X6_restore (l : Launch) (o : Om) (emb : Hp → va_W) (A : Nat → Prop) (hA : ∀ h : Hp, va_D A (emb h)) (hO : isX6 o emb) (x1 : Int32) (h : Hp) (r : Int32) (h' : Hp) (hf : f_X6_restore x1 h = some (r, h')) : Ct l o emb A yX6_restore cX6_restore 4 (some .int) 1 22 [.ref (o.1 0), .int x1] h (some (.int r)) h' := by
  refine Ct.of RX6 rfl (by decide +kernel) hA (Nat.le_of_ble_eq_true rfl) (fun p e s m args below meth c X => ?_)
  refine J_sub (lo' := [(0, .ref (o.1 0)), (1, .int x1)]) [0, 1] rfl ?_
  rw [f_X6_restore] at hf
  refine J_iload_n X 1 dX6_restore_0 rfl rfl ?_
  refine J_const X (0 : Int32) dX6_restore_1 (by decide) ?_
  refine J_const X (1 : Int32) dX6_restore_2 (by decide) ?_
  obtain ⟨v1, qv1, hf⟩ := ob hf
  refine J_callS X (rest := []) (rs := [.int v1]) (c_X6_in l o emb A hA x1 (0 : Int32) (1 : Int32) h v1 qv1) wd_660 wd_661 wd_41 wd_662 hd_X6_in ⟨Nat.le_of_ble_eq_true rfl, Nat.le_of_ble_eq_true rfl⟩ ⟨Nat.zero_le _, Nat.zero_le _⟩ (Nat.le_of_ble_eq_true rfl) dX6_restore_3 rfl rfl ?_
  refine J_if_ne (tgt := 12) X dX6_restore_6 (by decide) (fun c6 => ?_) (fun c6 => ?_)
  · rw [if_neg c6] at hf
    refine J_aload_n X 0 dX6_restore_12 rfl rfl ?_
    refine J_get X hO.1 inX6 rfl 19 (Nat.le_of_ble_eq_true rfl) wd_610 rfl (v := .ref (o.1 13)) rfl dX6_restore_13 ?_
    refine J_iload_n X 1 dX6_restore_16 rfl rfl ?_
    obtain ⟨v2, qv2, hf⟩ := ob hf
    refine J_zald X hO.2.2.2.2.2.2.2.2.2.2.2.2.2 (ald_s qv2).1 dX6_restore_17 ?_
    refine J_topi v2 (ald_s qv2).2 ?_
    refine J_if_ne (tgt := 24) X dX6_restore_18 (by decide) (fun c18 => ?_) (fun c18 => ?_)
    · rw [if_neg c18] at hf
      refine J_bipush X (120 : Int32) dX6_restore_24 (by decide) ?_
      refine J_iload_n X 1 dX6_restore_26 rfl rfl ?_
      refine J_imul X dX6_restore_27 ?_
      obtain ⟨v3, qv3, hf⟩ := ob hf
      refine J_topi v3 (Option.some.inj qv3) ?_
      refine J_istore_n X [(2, .int v3), (0, .ref (o.1 0)), (1, .int x1)] dX6_restore_28 rfl (Nat.le_of_ble_eq_true rfl) rfl ?_
      refine J_const X (0 : Int32) dX6_restore_29 (by decide) ?_
      refine J_istore_n X [(3, .int (0 : Int32)), (2, .int v3), (0, .ref (o.1 0)), (1, .int x1)] dX6_restore_30 rfl (Nat.le_of_ble_eq_true rfl) rfl ?_
      refine J_sub (lo' := [(0, .ref (o.1 0)), (2, .int v3), (3, .int (0 : Int32))]) [2, 1, 0] rfl ?_
      refine cf_X6_restore_l31 hA X  hO v3 _ _ (0 : Int32) h hf (fun w7 h8 hf => ?_)
      refine J_const X (0 : Int32) dX6_restore_57 (by decide) ?_
      refine J_istore_n X [(3, .int (0 : Int32)), (0, .ref (o.1 0)), (2, .int v3)] dX6_restore_58 rfl (Nat.le_of_ble_eq_true rfl) rfl ?_
      refine J_sub (lo' := [(0, .ref (o.1 0)), (2, .int v3), (3, .int (0 : Int32))]) [1, 2, 0] rfl ?_
      refine cf_X6_restore_l59 hA X  hO v3 _ _ (0 : Int32) h8 hf (fun w12 h13 hf => ?_)
      refine J_aload_n X 0 dX6_restore_88 rfl rfl ?_
      refine J_aload_n X 0 dX6_restore_89 rfl rfl ?_
      refine J_get X hO.1 inX6 rfl 18 (Nat.le_of_ble_eq_true rfl) wd_609 rfl (v := .ref (o.1 12)) rfl dX6_restore_90 ?_
      refine J_iload_n X 1 dX6_restore_93 rfl rfl ?_
      refine J_bipush X (115 : Int32) dX6_restore_94 (by decide) ?_
      refine J_iadd X dX6_restore_96 ?_
      obtain ⟨v14, qv14, hf⟩ := ob hf
      refine J_iald X hO.2.2.2.2.2.2.2.2.2.2.2.2.1 (ald_s qv14).1 dX6_restore_97 ?_
      refine J_topi v14 (ald_s qv14).2 ?_
      obtain ⟨h15, qh15, hf⟩ := ob hf
      refine J_put X hO.1 inX6 tyX6 tyX6_ok nmX6 rfl 2 (Nat.le_of_ble_eq_true rfl) (by decide) wd_593 rfl rfl (ty := .int) (by decide +kernel) rfl rfl (Nat.le_of_ble_eq_true rfl) dX6_restore_98 ?_
      refine J_hp h15 (Option.some.inj qh15) ?_
      refine J_aload_n X 0 dX6_restore_101 rfl rfl ?_
      refine J_aload_n X 0 dX6_restore_102 rfl rfl ?_
      refine J_get X hO.1 inX6 rfl 18 (Nat.le_of_ble_eq_true rfl) wd_609 rfl (v := .ref (o.1 12)) rfl dX6_restore_103 ?_
      refine J_iload_n X 1 dX6_restore_106 rfl rfl ?_
      refine J_bipush X (116 : Int32) dX6_restore_107 (by decide) ?_
      refine J_iadd X dX6_restore_109 ?_
      obtain ⟨v16, qv16, hf⟩ := ob hf
      refine J_iald X hO.2.2.2.2.2.2.2.2.2.2.2.2.1 (ald_s qv16).1 dX6_restore_110 ?_
      refine J_topi v16 (ald_s qv16).2 ?_
      obtain ⟨h17, qh17, hf⟩ := ob hf
      refine J_put X hO.1 inX6 tyX6 tyX6_ok nmX6 rfl 3 (Nat.le_of_ble_eq_true rfl) (by decide) wd_594 rfl rfl (ty := .int) (by decide +kernel) rfl rfl (Nat.le_of_ble_eq_true rfl) dX6_restore_111 ?_
      refine J_hp h17 (Option.some.inj qh17) ?_
      refine J_const X (1 : Int32) dX6_restore_114 (by decide) ?_
      cases hf
      exact J_iret X dX6_restore_115
    · rw [if_pos c18] at hf
      refine J_bipush X (-3 : Int32) dX6_restore_21 (by decide) ?_
      cases hf
      exact J_iret X dX6_restore_23
  · rw [if_pos c6] at hf
    refine J_bipush X (-2 : Int32) dX6_restore_9 (by decide) ?_
    cases hf
    exact J_iret X dX6_restore_11
theorem hd_X6_told : yX6_told.cls ≠ "java/lang/invoke/MethodHandle" ∧ yX6_told.cls ≠ "java/lang/invoke/VarHandle" ∧ (parseMethodDescriptor yX6_told.desc).map (fun d => d.parameters.length) = some 1 := by decide +kernel
set_option maxHeartbeats 4000000 in
set_option maxRecDepth 100000 in
theorem c_X6_told (l : Launch) (o : Om) (emb : Hp → va_W) (A : Nat → Prop) (hA : ∀ h : Hp, va_D A (emb h)) (hO : isX6 o emb) (x1 : Int32) (h : Hp) (r : Int32) (h' : Hp) (hf : f_X6_told x1 h = some (r, h')) : Ct l o emb A yX6_told cX6_told 3 (some .int) 3 67 [.ref (o.1 0), .int x1] h (some (.int r)) h' := by
  refine Ct.of RX6 rfl (by decide +kernel) hA (Nat.le_of_ble_eq_true rfl) (fun p e s m args below meth c X => ?_)
  refine J_sub (lo' := [(0, .ref (o.1 0)), (1, .int x1)]) [0, 1] rfl ?_
  rw [f_X6_told] at hf
  refine J_iload_n X 1 dX6_told_0 rfl rfl ?_
  refine J_bipush X (100 : Int32) dX6_told_1 (by decide) ?_
  refine J_icmp_lt (tgt := 51) X dX6_told_3 (by decide) (fun c3 => ?_) (fun c3 => ?_)
  · rw [if_pos c3] at hf
    refine J_aload_n X 0 dX6_told_51 rfl rfl ?_
    obtain ⟨h1, qh1, hf⟩ := ob hf
    refine J_callV X (rest := []) (rs := []) (c_X6_asNow l o emb A hA hO h h1 qh1) hO.1 rfl rfl wd_663 wd_665 wd_14 wd_41 wd_666 hd_X6_asNow ⟨Nat.le_of_ble_eq_true rfl, Nat.le_of_ble_eq_true rfl⟩ ⟨Nat.zero_le _, Nat.zero_le _⟩ (Nat.le_of_ble_eq_true rfl) dX6_told_52 rfl rfl ?_
    refine J_iload_n X 1 dX6_told_55 rfl rfl ?_
    refine J_bipush X (30 : Int32) dX6_told_56 (by decide) ?_
    refine J_icmp_lt (tgt := 86) X dX6_told_58 (by decide) (fun c58 => ?_) (fun c58 => ?_)
    · rw [if_pos c58] at hf
      refine J_iload_n X 1 dX6_told_86 rfl rfl ?_
      refine J_bipush X (10 : Int32) dX6_told_87 (by decide) ?_
      refine J_icmp_lt (tgt := 140) X dX6_told_89 (by decide) (fun c89 => ?_) (fun c89 => ?_)
      · rw [if_pos c89] at hf
        refine J_iload_n X 1 dX6_told_140 rfl rfl ?_
        by_cases c141_0 : x1 = (0 : Int32)
        · rw [if_pos c141_0] at hf
          refine J_topi (0 : Int32) c141_0 ?_
          refine J_tableIn (tgt := 168) X dX6_told_141 (by decide) (by decide) rfl (by decide) ?_
          refine J_aload_n X 0 dX6_told_168 rfl rfl ?_
          refine J_get X hO.1 inX6 rfl 5 (Nat.le_of_ble_eq_true rfl) wd_596 rfl (v := .int (h1.1 0 5)) rfl dX6_told_169 ?_
          cases hf
          exact J_iret X dX6_told_172
        · rw [if_neg c141_0] at hf
          by_cases c141_1 : x1 = (1 : Int32)
          · rw [if_pos c141_1] at hf
            refine J_topi (1 : Int32) c141_1 ?_
            refine J_tableIn (tgt := 173) X dX6_told_141 (by decide) (by decide) rfl (by decide) ?_
            refine J_aload_n X 0 dX6_told_173 rfl rfl ?_
            refine J_get X hO.1 inX6 rfl 2 (Nat.le_of_ble_eq_true rfl) wd_593 rfl (v := .int (h1.1 0 2)) rfl dX6_told_174 ?_
            cases hf
            exact J_iret X dX6_told_177
          · rw [if_neg c141_1] at hf
            by_cases c141_2 : x1 = (2 : Int32)
            · rw [if_pos c141_2] at hf
              refine J_topi (2 : Int32) c141_2 ?_
              refine J_tableIn (tgt := 178) X dX6_told_141 (by decide) (by decide) rfl (by decide) ?_
              refine J_aload_n X 0 dX6_told_178 rfl rfl ?_
              refine J_get X hO.1 inX6 rfl 0 (Nat.le_of_ble_eq_true rfl) wd_591 rfl (v := .ref (o.1 1)) rfl dX6_told_179 ?_
              refine J_bipush X (88 : Int32) dX6_told_182 (by decide) ?_
              obtain ⟨v2, qv2, hf⟩ := ob hf
              refine J_iald X hO.2.1 (ald_s qv2).1 dX6_told_184 ?_
              refine J_topi v2 (ald_s qv2).2 ?_
              cases hf
              exact J_iret X dX6_told_185
            · rw [if_neg c141_2] at hf
              refine J_tableOut (tgt := 186) X dX6_told_141 (sw_out3_0 c141_0 c141_1 c141_2) (by decide) ?_
              refine J_iload_n X 1 dX6_told_186 rfl rfl ?_
              refine J_const X (3 : Int32) dX6_told_187 (by decide) ?_
              refine J_icmp_ne (tgt := 198) X dX6_told_188 (by decide) (fun c188 => ?_) (fun c188 => ?_)
              · rw [if_neg c188] at hf
                refine J_bipush X (-2 : Int32) dX6_told_198 (by decide) ?_
                cases hf
                exact J_iret X dX6_told_200
              · rw [if_pos c188] at hf
                refine J_aload_n X 0 dX6_told_191 rfl rfl ?_
                refine J_get X hO.1 inX6 rfl 3 (Nat.le_of_ble_eq_true rfl) wd_594 rfl (v := .int (h1.1 0 3)) rfl dX6_told_192 ?_
                refine J_goto (tgt := 200) X dX6_told_195 (by decide) ?_
                cases hf
                exact J_iret X dX6_told_200
      · rw [if_neg c89] at hf
        refine J_iload_n X 1 dX6_told_92 rfl rfl ?_
        refine J_bipush X (10 : Int32) dX6_told_93 (by decide) ?_
        refine J_irem X dX6_told_95 (by decide) ?_
        obtain ⟨v3, qv3, hf⟩ := ob hf
        refine J_topi v3 (Option.some.inj qv3) ?_
        refine J_istore_n X [(2, .int v3), (0, .ref (o.1 0)), (1, .int x1)] dX6_told_96 rfl (Nat.le_of_ble_eq_true rfl) rfl ?_
        refine J_aload_n X 1 dX6_told_97 rfl rfl ?_
        refine J_iload_n X 0 dX6_told_98 rfl rfl ?_
        obtain ⟨v4, qv4, hf⟩ := ob hf
        refine J_callV X (rest := []) (rs := [.int v4]) (c_X6_isThere l o emb A hA hO v3 h1 v4 qv4) hO.1 rfl rfl wd_726 wd_728 wd_24 wd_41 wd_729 hd_X6_isThere ⟨Nat.le_of_ble_eq_true rfl, Nat.le_of_ble_eq_true rfl⟩ ⟨Nat.zero_le _, Nat.zero_le _⟩ (Nat.le_of_ble_eq_true rfl) dX6_told_99 rfl rfl ?_
        refine J_if_ne (tgt := 110) X dX6_told_102 (by decide) (fun c102 => ?_) (fun c102 => ?_)
        · rw [if_neg c102] at hf
          refine J_iload_n X 2 dX6_told_110 rfl rfl ?_
          refine J_bipush X (20 : Int32) dX6_told_111 (by decide) ?_
          refine J_icmp_ge (tgt := 128) X dX6_told_113 (by decide) (fun c113 => ?_) (fun c113 => ?_)
          · rw [if_pos c113] at hf
            refine J_aload_n X 1 dX6_told_128 rfl rfl ?_
            refine J_get X hO.1 inX6 rfl 0 (Nat.le_of_ble_eq_true rfl) wd_591 rfl (v := .ref (o.1 1)) rfl dX6_told_129 ?_
            refine J_bipush X (87 : Int32) dX6_told_132 (by decide) ?_
            obtain ⟨v5, qv5, hf⟩ := ob hf
            refine J_iald X hO.2.1 (ald_s qv5).1 dX6_told_134 ?_
            refine J_topi v5 (ald_s qv5).2 ?_
            refine J_iload_n X 0 dX6_told_135 rfl rfl ?_
            refine J_ishr X dX6_told_136 ?_
            refine J_const X (1 : Int32) dX6_told_137 (by decide) ?_
            refine J_iand X dX6_told_138 ?_
            cases hf
            exact J_iret X dX6_told_139
          · rw [if_neg c113] at hf
            refine J_aload_n X 1 dX6_told_116 rfl rfl ?_
            refine J_get X hO.1 inX6 rfl 0 (Nat.le_of_ble_eq_true rfl) wd_591 rfl (v := .ref (o.1 1)) rfl dX6_told_117 ?_
            refine J_bipush X (81 : Int32) dX6_told_120 (by decide) ?_
            refine J_iload_n X 0 dX6_told_122 rfl rfl ?_
            refine J_iadd X dX6_told_123 ?_
            obtain ⟨v6, qv6, hf⟩ := ob hf
            refine J_iald X hO.2.1 (ald_s qv6).1 dX6_told_124 ?_
            refine J_topi v6 (ald_s qv6).2 ?_
            refine J_goto (tgt := 139) X dX6_told_125 (by decide) ?_
            cases hf
            exact J_iret X dX6_told_139
        · rw [if_pos c102] at hf
          refine J_bipush X (-2 : Int32) dX6_told_105 (by decide) ?_
          refine J_goto (tgt := 139) X dX6_told_107 (by decide) ?_
          cases hf
          exact J_iret X dX6_told_139
    · rw [if_neg c58] at hf
      refine J_iload_n X 1 dX6_told_61 rfl rfl ?_
      refine J_bipush X (30 : Int32) dX6_told_62 (by decide) ?_
      refine J_bipush X (38 : Int32) dX6_told_64 (by decide) ?_
      obtain ⟨v7, qv7, hf⟩ := ob hf
      refine J_callS X (rest := []) (rs := [.int v7]) (c_X6_in l o emb A hA x1 (30 : Int32) (38 : Int32) h1 v7 qv7) wd_660 wd_661 wd_41 wd_662 hd_X6_in ⟨Nat.le_of_ble_eq_true rfl, Nat.le_of_ble_eq_true rfl⟩ ⟨Nat.zero_le _, Nat.zero_le _⟩ (Nat.le_of_ble_eq_true rfl) dX6_told_66 rfl rfl ?_
      refine J_if_eq (tgt := 83) X dX6_told_69 (by decide) (fun c69 => ?_) (fun c69 => ?_)
      · rw [if_pos c69] at hf
        refine J_bipush X (-2 : Int32) dX6_told_83 (by decide) ?_
        cases hf
        exact J_iret X dX6_told_85
      · rw [if_neg c69] at hf
        refine J_aload_n X 0 dX6_told_72 rfl rfl ?_
        refine J_iload_n X 1 dX6_told_73 rfl rfl ?_
        refine J_bipush X (30 : Int32) dX6_told_74 (by decide) ?_
        refine J_isub X dX6_told_76 ?_
        obtain ⟨v8, qv8, hf⟩ := ob hf
        refine J_callV X (rest := []) (rs := [.int v8]) (c_X6_openFrom l o emb A hA hO (x1 - (30 : Int32)) h1 v8 qv8) hO.1 rfl rfl wd_765 wd_767 wd_29 wd_41 wd_768 hd_X6_openFrom ⟨Nat.le_of_ble_eq_true rfl, Nat.le_of_ble_eq_true rfl⟩ ⟨Nat.zero_le _, Nat.zero_le _⟩ (Nat.le_of_ble_eq_true rfl) dX6_told_77 rfl rfl ?_
        refine J_goto (tgt := 85) X dX6_told_80 (by decide) ?_
        cases hf
        exact J_iret X dX6_told_85
  · rw [if_neg c3] at hf
    refine J_iload_n X 1 dX6_told_6 rfl rfl ?_
    refine J_bipush X (10 : Int32) dX6_told_7 (by decide) ?_
    refine J_idiv X dX6_told_9 (by decide) ?_
    refine J_bipush X (10 : Int32) dX6_told_10 (by decide) ?_
    refine J_isub X dX6_told_12 ?_
    obtain ⟨v9, qv9, hf⟩ := ob hf
    refine J_topi v9 (Option.some.inj qv9) ?_
    refine J_istore_n X [(2, .int v9), (0, .ref (o.1 0)), (1, .int x1)] dX6_told_13 rfl (Nat.le_of_ble_eq_true rfl) rfl ?_
    refine J_iload_n X 0 dX6_told_14 rfl rfl ?_
    obtain ⟨v10, qv10, hf⟩ := ob hf
    refine J_callS X (rest := []) (rs := [.int v10]) (c_X6_isPlace l o emb A hA v9 h v10 qv10) wd_657 wd_658 wd_41 wd_659 hd_X6_isPlace ⟨Nat.le_of_ble_eq_true rfl, Nat.le_of_ble_eq_true rfl⟩ ⟨Nat.zero_le _, Nat.zero_le _⟩ (Nat.le_of_ble_eq_true rfl) dX6_told_15 rfl rfl ?_
    refine J_if_eq (tgt := 48) X dX6_told_18 (by decide) (fun c18 => ?_) (fun c18 => ?_)
    · rw [if_pos c18] at hf
      refine J_bipush X (-2 : Int32) dX6_told_48 (by decide) ?_
      cases hf
      exact J_iret X dX6_told_50
    · rw [if_neg c18] at hf
      refine J_iload_n X 2 dX6_told_21 rfl rfl ?_
      refine J_bipush X (10 : Int32) dX6_told_22 (by decide) ?_
      refine J_irem X dX6_told_24 (by decide) ?_
      obtain ⟨v11, qv11, hf⟩ := ob hf
      refine J_callS X (rest := []) (rs := [.int v11]) (c_X6_isPlace l o emb A hA (irem x1 (10 : Int32)) h v11 qv11) wd_657 wd_658 wd_41 wd_659 hd_X6_isPlace ⟨Nat.le_of_ble_eq_true rfl, Nat.le_of_ble_eq_true rfl⟩ ⟨Nat.zero_le _, Nat.zero_le _⟩ (Nat.le_of_ble_eq_true rfl) dX6_told_25 rfl rfl ?_
      refine J_if_eq (tgt := 48) X dX6_told_28 (by decide) (fun c28 => ?_) (fun c28 => ?_)
      · rw [if_pos c28] at hf
        refine J_bipush X (-2 : Int32) dX6_told_48 (by decide) ?_
        cases hf
        exact J_iret X dX6_told_50
      · rw [if_neg c28] at hf
        refine J_aload_n X 1 dX6_told_31 rfl rfl ?_
        refine J_get X hO.1 inX6 rfl 0 (Nat.le_of_ble_eq_true rfl) wd_591 rfl (v := .ref (o.1 1)) rfl dX6_told_32 ?_
        refine J_bipush X (9 : Int32) dX6_told_35 (by decide) ?_
        refine J_iload_n X 0 dX6_told_37 rfl rfl ?_
        refine J_imul X dX6_told_38 ?_
        refine J_iload_n X 2 dX6_told_39 rfl rfl ?_
        refine J_bipush X (10 : Int32) dX6_told_40 (by decide) ?_
        refine J_irem X dX6_told_42 (by decide) ?_
        refine J_iadd X dX6_told_43 ?_
        obtain ⟨v12, qv12, hf⟩ := ob hf
        refine J_iald X hO.2.1 (ald_s qv12).1 dX6_told_44 ?_
        refine J_topi v12 (ald_s qv12).2 ?_
        refine J_goto (tgt := 50) X dX6_told_45 (by decide) ?_
        cases hf
        exact J_iret X dX6_told_50
end CERT
