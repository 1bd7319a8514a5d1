section CERT
variable {p : Program} {l : Launch} {e : Env} {s : State} {m : MethodId} {args : Array Value} {below : List Frame} {meth : Method} {c : Code} {Z : State → Prop} {o : Om} {emb : Hp → va_W} {A : Nat → Prop} {H0 : Heap}
theorem hd_X1_add : yX1_add.cls ≠ "java/lang/invoke/MethodHandle" ∧ yX1_add.cls ≠ "java/lang/invoke/VarHandle" ∧ (parseMethodDescriptor yX1_add.desc).map (fun d => d.parameters.length) = some 1 := by decide +kernel
set_option maxHeartbeats 4000000 in
set_option maxRecDepth 100000 in
theorem c_X1_add (l : Launch) (o : Om) (emb : Hp → va_W) (A : Nat → Prop) (hA : ∀ h : Hp, va_D A (emb h)) (hO : isX1 o emb) (x1 : Int32) (h : Hp)  (h' : Hp) (hf : f_X1_add x1 h = some h') : Ct l o emb A yX1_add cX1_add 2 none 1 22 [.ref (o.1 9), .int x1] h none h' := by
  refine Ct.of RX1 rfl (by decide +kernel) hA (Nat.le_of_ble_eq_true rfl) (fun p e s m args below meth c X => ?_)
  refine J_sub (lo' := [(0, .ref (o.1 9)), (1, .int x1)]) [0, 1] rfl ?_
  rw [f_X1_add] at hf
  refine J_aload_n X 0 dX1_add_0 rfl rfl ?_
  refine J_get X hO.1 inX1 rfl 1 (Nat.le_of_ble_eq_true rfl) wd_108 rfl (v := .int (h.1 9 1)) rfl dX1_add_1 ?_
  refine J_aload_n X 0 dX1_add_4 rfl rfl ?_
  refine J_get X hO.1 inX1 rfl 0 (Nat.le_of_ble_eq_true rfl) wd_107 rfl (v := .ref (o.1 10)) rfl dX1_add_5 ?_
  refine J_alenI X hO.2 (60 : Int32) (by decide) dX1_add_8 ?_
  refine J_icmp_lt (tgt := 13) X dX1_add_9 (by decide) (fun c9 => ?_) (fun c9 => ?_)
  · rw [if_pos c9] at hf
    refine J_aload_n X 0 dX1_add_13 rfl rfl ?_
    refine J_get X hO.1 inX1 rfl 0 (Nat.le_of_ble_eq_true rfl) wd_107 rfl (v := .ref (o.1 10)) rfl dX1_add_14 ?_
    refine J_aload_n X 0 dX1_add_17 rfl rfl ?_
    refine J_get X hO.1 inX1 rfl 1 (Nat.le_of_ble_eq_true rfl) wd_108 rfl (v := .int (h.1 9 1)) rfl dX1_add_18 ?_
    refine J_iload_n X 1 dX1_add_21 rfl rfl ?_
    obtain ⟨h1, qh1, hf⟩ := ob hf
    refine J_callSN X (rest := []) (rs := []) (c_X5_put l o emb A hA 10 60 hO.2 (h.1 9 1) x1 h h1 qh1) nw_271 wd_225 wd_34 wd_226 hd_X5_put ⟨Nat.le_of_ble_eq_true rfl, Nat.le_of_ble_eq_true rfl⟩ ⟨Nat.zero_le _, Nat.zero_le _⟩ (Nat.le_of_ble_eq_true rfl) dX1_add_22 rfl rfl ?_
    refine J_aload_n X 0 dX1_add_25 rfl rfl ?_
    refine J_dup X dX1_add_26 rfl ?_
    refine J_get X hO.1 inX1 rfl 1 (Nat.le_of_ble_eq_true rfl) wd_108 rfl (v := .int (h1.1 9 1)) rfl dX1_add_27 ?_
    refine J_const X (1 : Int32) dX1_add_30 (by decide) ?_
    refine J_iadd X dX1_add_31 ?_
    obtain ⟨h2, qh2, hf⟩ := ob hf
    refine J_put X hO.1 inX1 tyX1 tyX1_ok nmX1 rfl 1 (Nat.le_of_ble_eq_true rfl) (by decide) wd_108 rfl rfl (ty := .int) (by decide +kernel) rfl rfl (Nat.le_of_ble_eq_true rfl) dX1_add_32 ?_
    refine J_hp h2 (Option.some.inj qh2) ?_
    cases hf
    exact J_vret X dX1_add_35
  · rw [if_neg c9] at hf
    cases hf
    exact J_vret X dX1_add_12
theorem hd_X1_empty : yX1_empty.cls ≠ "java/lang/invoke/MethodHandle" ∧ yX1_empty.cls ≠ "java/lang/invoke/VarHandle" ∧ (parseMethodDescriptor yX1_empty.desc).map (fun d => d.parameters.length) = some 0 := by decide +kernel
set_option maxHeartbeats 4000000 in
set_option maxRecDepth 100000 in
theorem c_X1_empty (l : Launch) (o : Om) (emb : Hp → va_W) (A : Nat → Prop) (hA : ∀ h : Hp, va_D A (emb h)) (hO : isX1 o emb) (h : Hp)  (h' : Hp) (hf : f_X1_empty h = some h') : Ct l o emb A yX1_empty cX1_empty 1 none 0 0 [.ref (o.1 9)] h none h' := by
  refine Ct.of RX1 rfl (by decide +kernel) hA (Nat.le_of_ble_eq_true rfl) (fun p e s m args below meth c X => ?_)
  refine J_sub (lo' := [(0, .ref (o.1 9))]) [0] rfl ?_
  rw [f_X1_empty] at hf
  refine J_aload_n X 0 dX1_empty_0 rfl rfl ?_
  refine J_const X (0 : Int32) dX1_empty_1 (by decide) ?_
  obtain ⟨h1, qh1, hf⟩ := ob hf
  refine J_put X hO.1 inX1 tyX1 tyX1_ok nmX1 rfl 1 (Nat.le_of_ble_eq_true rfl) (by decide) wd_108 rfl rfl (ty := .int) (by decide +kernel) rfl rfl (Nat.le_of_ble_eq_true rfl) dX1_empty_2 ?_
  refine J_hp h1 (Option.some.inj qh1) ?_
  cases hf
  exact J_vret X dX1_empty_5
theorem hd_X1_signAt : yX1_signAt.cls ≠ "java/lang/invoke/MethodHandle" ∧ yX1_signAt.cls ≠ "java/lang/invoke/VarHandle" ∧ (parseMethodDescriptor yX1_signAt.desc).map (fun d => d.parameters.length) = some 1 := by decide +kernel
set_option maxHeartbeats 4000000 in
set_option maxRecDepth 100000 in
theorem c_X1_signAt (l : Launch) (o : Om) (emb : Hp → va_W) (A : Nat → Prop) (hA : ∀ h : Hp, va_D A (emb h)) (hO : isX1 o emb) (x1 : Int32) (h : Hp) (r : Int32) (hf : f_X1_signAt x1 h = some r) : Ct l o emb A yX1_signAt cX1_signAt 2 (some .int) 1 21 [.ref (o.1 9), .int x1] h (some (.int r)) h := by
  refine Ct.of RX1 rfl (by decide +kernel) hA (Nat.le_of_ble_eq_true rfl) (fun p e s m args below meth c X => ?_)
  refine J_sub (lo' := [(0, .ref (o.1 9)), (1, .int x1)]) [0, 1] rfl ?_
  rw [f_X1_signAt] at hf
  refine J_aload_n X 0 dX1_signAt_0 rfl rfl ?_
  refine J_get X hO.1 inX1 rfl 0 (Nat.le_of_ble_eq_true rfl) wd_107 rfl (v := .ref (o.1 10)) rfl dX1_signAt_1 ?_
  refine J_iload_n X 1 dX1_signAt_4 rfl rfl ?_
  obtain ⟨v1, qv1, hf⟩ := ob hf
  refine J_callSN X (rest := []) (rs := [.int v1]) (c_X5_at l o emb A hA 10 60 hO.2 x1 h v1 qv1) nw_296 wd_255 wd_34 wd_256 hd_X5_at ⟨Nat.le_of_ble_eq_true rfl, Nat.le_of_ble_eq_true rfl⟩ ⟨Nat.zero_le _, Nat.zero_le _⟩ (Nat.le_of_ble_eq_true rfl) dX1_signAt_5 rfl rfl ?_
  cases hf
  exact J_iret X dX1_signAt_8
theorem hd_X1_placeAt : yX1_placeAt.cls ≠ "java/lang/invoke/MethodHandle" ∧ yX1_placeAt.cls ≠ "java/lang/invoke/VarHandle" ∧ (parseMethodDescriptor yX1_placeAt.desc).map (fun d => d.parameters.length) = some 1 := by decide +kernel
set_option maxHeartbeats 4000000 in
set_option maxRecDepth 100000 in
theorem c_X1_placeAt (l : Launch) (o : Om) (emb : Hp → va_W) (A : Nat → Prop) (hA : ∀ h : Hp, va_D A (emb h)) (hO : isX1 o emb) (x1 : Int32) (h : Hp) (r : Int32) (hf : f_X1_placeAt x1 h = some r) : Ct l o emb A yX1_placeAt cX1_placeAt 2 (some .int) 2 42 [.ref (o.1 9), .int x1] h (some (.int r)) h := by
  refine Ct.of RX1 rfl (by decide +kernel) hA (Nat.le_of_ble_eq_true rfl) (fun p e s m args below meth c X => ?_)
  refine J_sub (lo' := [(0, .ref (o.1 9)), (1, .int x1)]) [0, 1] rfl ?_
  rw [f_X1_placeAt] at hf
  refine J_aload_n X 0 dX1_placeAt_0 rfl rfl ?_
  refine J_iload_n X 1 dX1_placeAt_1 rfl rfl ?_
  obtain ⟨v1, qv1, hf⟩ := ob hf
  refine J_callV X (rest := []) (rs := [.int v1]) (c_X1_signAt l o emb A hA hO x1 h v1 qv1) hO.1 rfl rfl wd_292 wd_293 wd_294 wd_38 wd_295 hd_X1_signAt ⟨Nat.le_of_ble_eq_true rfl, Nat.le_of_ble_eq_true rfl⟩ ⟨Nat.zero_le _, Nat.zero_le _⟩ (Nat.le_of_ble_eq_true rfl) dX1_placeAt_2 rfl rfl ?_
  refine J_bipush X (97 : Int32) dX1_placeAt_5 (by decide) ?_
  refine J_isub X dX1_placeAt_7 ?_
  cases hf
  exact J_iret X dX1_placeAt_8
theorem hd_X1_actLength : yX1_actLength.cls ≠ "java/lang/invoke/MethodHandle" ∧ yX1_actLength.cls ≠ "java/lang/invoke/VarHandle" ∧ (parseMethodDescriptor yX1_actLength.desc).map (fun d => d.parameters.length) = some 1 := by decide +kernel
set_option maxHeartbeats 4000000 in
set_option maxRecDepth 100000 in
theorem c_X1_actLength (l : Launch) (o : Om) (emb : Hp → va_W) (A : Nat → Prop) (hA : ∀ h : Hp, va_D A (emb h)) (hO : isX1 o emb) (x1 : Int32) (h : Hp) (r : Int32) (hf : f_X1_actLength x1 h = some r) : Ct l o emb A yX1_actLength cX1_actLength 3 (some .int) 2 42 [.ref (o.1 9), .int x1] h (some (.int r)) h := by
  refine Ct.of RX1 rfl (by decide +kernel) hA (Nat.le_of_ble_eq_true rfl) (fun p e s m args below meth c X => ?_)
  refine J_sub (lo' := [(0, .ref (o.1 9)), (1, .int x1)]) [0, 1] rfl ?_
  rw [f_X1_actLength] at hf
  refine J_aload_n X 0 dX1_actLength_0 rfl rfl ?_
  refine J_iload_n X 1 dX1_actLength_1 rfl rfl ?_
  obtain ⟨v1, qv1, hf⟩ := ob hf
  refine J_callV X (rest := []) (rs := [.int v1]) (c_X1_signAt l o emb A hA hO x1 h v1 qv1) hO.1 rfl rfl wd_292 wd_293 wd_294 wd_38 wd_295 hd_X1_signAt ⟨Nat.le_of_ble_eq_true rfl, Nat.le_of_ble_eq_true rfl⟩ ⟨Nat.zero_le _, Nat.zero_le _⟩ (Nat.le_of_ble_eq_true rfl) dX1_actLength_2 rfl rfl ?_
  refine J_istore_n X [(2, .int v1), (0, .ref (o.1 9)), (1, .int x1)] dX1_actLength_5 rfl (Nat.le_of_ble_eq_true rfl) rfl ?_
  refine J_iload_n X 0 dX1_actLength_6 rfl rfl ?_
  refine J_bipush X (65 : Int32) dX1_actLength_7 (by decide) ?_
  refine J_isub X dX1_actLength_9 ?_
  obtain ⟨v2, qv2, hf⟩ := ob hf
  refine J_callSN X (rest := []) (rs := [.int v2]) (c_X5_isWalker l o emb A hA (v1 - (65 : Int32)) h v2 qv2) nw_297 wd_236 wd_34 wd_237 hd_X5_isWalker ⟨Nat.le_of_ble_eq_true rfl, Nat.le_of_ble_eq_true rfl⟩ ⟨Nat.zero_le _, Nat.zero_le _⟩ (Nat.le_of_ble_eq_true rfl) dX1_actLength_10 rfl rfl ?_
  refine J_if_eq (tgt := 18) X dX1_actLength_13 (by decide) (fun c13 => ?_) (fun c13 => ?_)
  · rw [if_pos c13] at hf
    refine J_iload_n X 0 dX1_actLength_18 rfl rfl ?_
    refine J_bipush X (109 : Int32) dX1_actLength_19 (by decide) ?_
    refine J_icmp_ne (tgt := 26) X dX1_actLength_21 (by decide) (fun c21 => ?_) (fun c21 => ?_)
    · rw [if_neg c21] at hf
      refine J_iload_n X 0 dX1_actLength_26 rfl rfl ?_
      refine J_bipush X (112 : Int32) dX1_actLength_27 (by decide) ?_
      refine J_icmp_ne (tgt := 34) X dX1_actLength_29 (by decide) (fun c29 => ?_) (fun c29 => ?_)
      · rw [if_neg c29] at hf
        refine J_iload_n X 0 dX1_actLength_34 rfl rfl ?_
        refine J_bipush X (46 : Int32) dX1_actLength_35 (by decide) ?_
        refine J_icmp_ne (tgt := 44) X dX1_actLength_37 (by decide) (fun c37 => ?_) (fun c37 => ?_)
        · rw [if_neg c37] at hf
          refine J_const X (0 : Int32) dX1_actLength_44 (by decide) ?_
          cases hf
          exact J_iret X dX1_actLength_45
        · rw [if_pos c37] at hf
          refine J_const X (1 : Int32) dX1_actLength_40 (by decide) ?_
          refine J_goto (tgt := 45) X dX1_actLength_41 (by decide) ?_
          cases hf
          exact J_iret X dX1_actLength_45
      · rw [if_pos c29] at hf
        refine J_const X (5 : Int32) dX1_actLength_32 (by decide) ?_
        cases hf
        exact J_iret X dX1_actLength_33
    · rw [if_pos c21] at hf
      refine J_const X (3 : Int32) dX1_actLength_24 (by decide) ?_
      cases hf
      exact J_iret X dX1_actLength_25
  · rw [if_neg c13] at hf
    refine J_const X (2 : Int32) dX1_actLength_16 (by decide) ?_
    cases hf
    exact J_iret X dX1_actLength_17
theorem hd_X1_canGoOn : yX1_canGoOn.cls ≠ "java/lang/invoke/MethodHandle" ∧ yX1_canGoOn.cls ≠ "java/lang/invoke/VarHandle" ∧ (parseMethodDescriptor yX1_canGoOn.desc).map (fun d => d.parameters.length) = some 2 := by decide +kernel
set_option maxHeartbeats 4000000 in
set_option maxRecDepth 100000 in
theorem c_X1_canGoOn (l : Launch) (o : Om) (emb : Hp → va_W) (A : Nat → Prop) (hA : ∀ h : Hp, va_D A (emb h)) (hO : isX1 o emb) (x1 : Int32) (x2 : Int32) (h : Hp) (r : Int32) (hf : f_X1_canGoOn x1 x2 h = some r) : Ct l o emb A yX1_canGoOn cX1_canGoOn 4 (some .boolean) 3 64 [.ref (o.1 9), .int x1, .int x2] h (some (.int r)) h := by
  refine Ct.of RX1 rfl (by decide +kernel) hA (Nat.le_of_ble_eq_true rfl) (fun p e s m args below meth c X => ?_)
  refine J_sub (lo' := [(0, .ref (o.1 9)), (1, .int x1), (2, .int x2)]) [0, 1, 2] rfl ?_
  rw [f_X1_canGoOn] at hf
  refine J_aload_n X 0 dX1_canGoOn_0 rfl rfl ?_
  refine J_iload_n X 1 dX1_canGoOn_1 rfl rfl ?_
  obtain ⟨v1, qv1, hf⟩ := ob hf
  refine J_callV X (rest := []) (rs := [.int v1]) (c_X1_actLength l o emb A hA hO x1 h v1 qv1) hO.1 rfl rfl wd_288 wd_289 wd_290 wd_38 wd_291 hd_X1_actLength ⟨Nat.le_of_ble_eq_true rfl, Nat.le_of_ble_eq_true rfl⟩ ⟨Nat.zero_le _, Nat.zero_le _⟩ (Nat.le_of_ble_eq_true rfl) dX1_canGoOn_2 rfl rfl ?_
  refine J_const X (2 : Int32) dX1_canGoOn_5 (by decide) ?_
  obtain ⟨t3, qt3, hf⟩ := ob hf
  have yk2 : J p l e (rmf 3 64) s m args below meth c 0 0 (MQ below (WdQ o emb A (some (.int r)) h) args s 0 0 A) o emb A s.heap 4 14 [(0, .ref (o.1 9)), (2, .int x2)] [.int t3] h := by
    refine J_istore_n X [(3, .int t3), (0, .ref (o.1 9)), (2, .int x2)] dX1_canGoOn_14 rfl (Nat.le_of_ble_eq_true rfl) rfl ?_
    refine J_aload_n X 1 dX1_canGoOn_15 rfl rfl ?_
    refine J_iload_n X 2 dX1_canGoOn_16 rfl rfl ?_
    obtain ⟨v4, qv4, hf⟩ := ob hf
    refine J_callV X (rest := []) (rs := [.int v4]) (c_X1_placeAt l o emb A hA hO x2 h v4 qv4) hO.1 rfl rfl wd_302 wd_303 wd_304 wd_38 wd_305 hd_X1_placeAt ⟨Nat.le_of_ble_eq_true rfl, Nat.le_of_ble_eq_true rfl⟩ ⟨Nat.zero_le _, Nat.zero_le _⟩ (Nat.le_of_ble_eq_true rfl) dX1_canGoOn_17 rfl rfl ?_
    obtain ⟨v5, qv5, hf⟩ := ob hf
    refine J_callSN X (rest := []) (rs := [.int v5]) (c_X5_isPlace l o emb A hA v4 h v5 qv5) nw_306 wd_239 wd_34 wd_240 hd_X5_isPlace ⟨Nat.le_of_ble_eq_true rfl, Nat.le_of_ble_eq_true rfl⟩ ⟨Nat.zero_le _, Nat.zero_le _⟩ (Nat.le_of_ble_eq_true rfl) dX1_canGoOn_20 rfl rfl ?_
    refine J_if_ne (tgt := 40) X dX1_canGoOn_23 (by decide) (fun c23 => ?_) (fun c23 => ?_)
    · rw [if_neg c23] at hf
      refine J_const X (1 : Int32) dX1_canGoOn_40 (by decide) ?_
      refine J_goto (tgt := 45) X dX1_canGoOn_41 (by decide) ?_
      cases hf
      exact J_zret X rfl dX1_canGoOn_45
    · rw [if_pos c23] at hf
      refine J_iload_n X 0 dX1_canGoOn_26 rfl rfl ?_
      refine J_if_eq (tgt := 44) X dX1_canGoOn_27 (by decide) (fun c27 => ?_) (fun c27 => ?_)
      · rw [if_pos c27] at hf
        refine J_const X (0 : Int32) dX1_canGoOn_44 (by decide) ?_
        cases hf
        exact J_zret X rfl dX1_canGoOn_45
      · rw [if_neg c27] at hf
        refine J_aload_n X 1 dX1_canGoOn_30 rfl rfl ?_
        refine J_iload_n X 2 dX1_canGoOn_31 rfl rfl ?_
        obtain ⟨v6, qv6, hf⟩ := ob hf
        refine J_callV X (rest := []) (rs := [.int v6]) (c_X1_signAt l o emb A hA hO x2 h v6 qv6) hO.1 rfl rfl wd_292 wd_293 wd_294 wd_38 wd_295 hd_X1_signAt ⟨Nat.le_of_ble_eq_true rfl, Nat.le_of_ble_eq_true rfl⟩ ⟨Nat.zero_le _, Nat.zero_le _⟩ (Nat.le_of_ble_eq_true rfl) dX1_canGoOn_32 rfl rfl ?_
        refine J_bipush X (94 : Int32) dX1_canGoOn_35 (by decide) ?_
        refine J_icmp_ne (tgt := 44) X dX1_canGoOn_37 (by decide) (fun c37 => ?_) (fun c37 => ?_)
        · rw [if_neg c37] at hf
          refine J_const X (0 : Int32) dX1_canGoOn_44 (by decide) ?_
          cases hf
          exact J_zret X rfl dX1_canGoOn_45
        · rw [if_pos c37] at hf
          refine J_const X (1 : Int32) dX1_canGoOn_40 (by decide) ?_
          refine J_goto (tgt := 45) X dX1_canGoOn_41 (by decide) ?_
          cases hf
          exact J_zret X rfl dX1_canGoOn_45
  clear hf
  have hf := qt3
  clear qt3
  refine J_icmp_ne (tgt := 13) X dX1_canGoOn_6 (by decide) (fun c6 => ?_) (fun c6 => ?_)
  · rw [if_neg c6] at hf
    refine J_const X (0 : Int32) dX1_canGoOn_13 (by decide) ?_
    cases hf
    exact J_sub [0, 2] rfl yk2
  · rw [if_pos c6] at hf
    refine J_const X (1 : Int32) dX1_canGoOn_9 (by decide) ?_
    refine J_goto (tgt := 14) X dX1_canGoOn_10 (by decide) ?_
    cases hf
    exact J_sub [0, 2] rfl yk2
theorem hd_X1_faultPlace : yX1_faultPlace.cls ≠ "java/lang/invoke/MethodHandle" ∧ yX1_faultPlace.cls ≠ "java/lang/invoke/VarHandle" ∧ (parseMethodDescriptor yX1_faultPlace.desc).map (fun d => d.parameters.length) = some 0 := by decide +kernel
set_option maxHeartbeats 4000000 in
set_option maxRecDepth 100000 in
theorem cf_X1_faultPlace_l33 (hA : ∀ h : Hp, va_D A (emb h)) (X : Cx p s m args meth c RX1 cX1_faultPlace 5 (some .int) o)  (hO : isX1 o emb) (s1 : Int32) (s2 : Int32) (s3 : Int32) (h : Hp) {kx : Int32 → Option Int32} (r : Int32) : ∀ (n : Nat) (s4 : Int32), f_X1_faultPlace_l33 s1 s2 s3 h kx n s4 = some r → (∀ (s4 : Int32), kx s4 = some r → J p l e (rmf 4 87) s m args below meth c 0 0 (MQ below (WdQ o emb A (some (.int r)) h) args s 0 0 A) o emb A s.heap 5 78 [(0, .ref (o.1 9)), (1, .int s1), (2, .int s2), (3, .int s3)] [] h) → J p l e (rmf 4 87) s m args below meth c 0 0 (MQ below (WdQ o emb A (some (.int r)) h) args s 0 0 A) o emb A s.heap 5 33 [(0, .ref (o.1 9)), (1, .int s1), (2, .int s2), (3, .int s3), (4, .int s4)] [] h := by
  intro n
  induction n with
  | zero =>
    intro s4 hf hk
    cases hf
  | succ n ih =>
    intro s4 hf hk
    rw [f_X1_faultPlace_l33] at hf
    refine J_iload X 4 dX1_faultPlace_33 rfl ?_
    refine J_iload_n X 3 dX1_faultPlace_35 rfl rfl ?_
    refine J_icmp_ge (tgt := 78) X dX1_faultPlace_36 (by decide) (fun c36 => ?_) (fun c36 => ?_)
    · rw [if_pos c36] at hf
      exact J_sub [0, 1, 2, 3] rfl (hk s4 hf)
    · rw [if_neg c36] at hf
      refine J_iload_n X 1 dX1_faultPlace_39 rfl rfl ?_
      refine J_iload X 4 dX1_faultPlace_40 rfl ?_
      refine J_iadd X dX1_faultPlace_42 ?_
      refine J_aload_n X 0 dX1_faultPlace_43 rfl rfl ?_
      refine J_get X hO.1 inX1 rfl 1 (Nat.le_of_ble_eq_true rfl) wd_108 rfl (v := .int (h.1 9 1)) rfl dX1_faultPlace_44 ?_
      refine J_icmp_lt (tgt := 55) X dX1_faultPlace_47 (by decide) (fun c47 => ?_) (fun c47 => ?_)
      · rw [if_pos c47] at hf
        refine J_aload_n X 0 dX1_faultPlace_55 rfl rfl ?_
        refine J_iload_n X 1 dX1_faultPlace_56 rfl rfl ?_
        refine J_iload_n X 1 dX1_faultPlace_57 rfl rfl ?_
        refine J_iload X 4 dX1_faultPlace_58 rfl ?_
        refine J_iadd X dX1_faultPlace_60 ?_
        obtain ⟨v2, qv2, hf⟩ := ob hf
        refine J_callV X (rest := []) (rs := [.int v2]) (c_X1_canGoOn l o emb A hA hO s1 (s1 + s4) h v2 qv2) hO.1 rfl rfl wd_298 wd_300 wd_0 wd_38 wd_301 hd_X1_canGoOn ⟨Nat.le_of_ble_eq_true rfl, Nat.le_of_ble_eq_true rfl⟩ ⟨Nat.zero_le _, Nat.zero_le _⟩ (Nat.le_of_ble_eq_true rfl) dX1_faultPlace_61 rfl rfl ?_
        refine J_if_ne (tgt := 72) X dX1_faultPlace_64 (by decide) (fun c64 => ?_) (fun c64 => ?_)
        · rw [if_neg c64] at hf
          obtain ⟨v3, qv3, hf⟩ := ob hf
          refine J_iinc X 4 [(4, .int v3), (0, .ref (o.1 9)), (1, .int s1), (2, .int s2), (3, .int s3)] dX1_faultPlace_72 rfl (Option.some.inj qv3) (Nat.le_of_ble_eq_true rfl) rfl ?_
          refine J_goto (tgt := 33) X dX1_faultPlace_75 (by decide) ?_
          exact J_sub [1, 2, 3, 4, 0] rfl (ih v3 hf hk)
        · rw [if_pos c64] at hf
          refine J_iload_n X 1 dX1_faultPlace_67 rfl rfl ?_
          refine J_iload X 4 dX1_faultPlace_68 rfl ?_
          refine J_iadd X dX1_faultPlace_70 ?_
          cases hf
          exact J_iret X dX1_faultPlace_71
      · rw [if_neg c47] at hf
        refine J_aload_n X 0 dX1_faultPlace_50 rfl rfl ?_
        refine J_get X hO.1 inX1 rfl 1 (Nat.le_of_ble_eq_true rfl) wd_108 rfl (v := .int (h.1 9 1)) rfl dX1_faultPlace_51 ?_
        cases hf
        exact J_iret X dX1_faultPlace_54
set_option maxHeartbeats 4000000 in
set_option maxRecDepth 100000 in
theorem cf_X1_faultPlace_l4 (hA : ∀ h : Hp, va_D A (emb h)) (X : Cx p s m args meth c RX1 cX1_faultPlace 5 (some .int) o)  (hO : isX1 o emb)  (h : Hp) {kx : Int32 → Int32 → Option Int32} (r : Int32) : ∀ (n : Nat) (s1 : Int32) (s2 : Int32), f_X1_faultPlace_l4 h kx n s1 s2 = some r → (∀ (s1 : Int32) (s2 : Int32), kx s1 s2 = some r → J p l e (rmf 4 87) s m args below meth c 0 0 (MQ below (WdQ o emb A (some (.int r)) h) args s 0 0 A) o emb A s.heap 5 88 [] [] h) → J p l e (rmf 4 87) s m args below meth c 0 0 (MQ below (WdQ o emb A (some (.int r)) h) args s 0 0 A) o emb A s.heap 5 4 [(0, .ref (o.1 9)), (1, .int s1), (2, .int s2)] [] h := by
  intro n
  induction n with
  | zero =>
    intro s1 s2 hf hk
    cases hf
  | succ n ih =>
    intro s1 s2 hf hk
    rw [f_X1_faultPlace_l4] at hf
    refine J_iload_n X 2 dX1_faultPlace_4 rfl rfl ?_
    refine J_bipush X (60 : Int32) dX1_faultPlace_5 (by decide) ?_
    refine J_icmp_ge (tgt := 88) X dX1_faultPlace_7 (by decide) (fun c7 => ?_) (fun c7 => ?_)
    · rw [if_pos c7] at hf
      exact J_sub [] rfl (hk s1 s2 hf)
    · rw [if_neg c7] at hf
      refine J_iload_n X 1 dX1_faultPlace_10 rfl rfl ?_
      refine J_aload_n X 0 dX1_faultPlace_11 rfl rfl ?_
      refine J_get X hO.1 inX1 rfl 1 (Nat.le_of_ble_eq_true rfl) wd_108 rfl (v := .int (h.1 9 1)) rfl dX1_faultPlace_12 ?_
      refine J_icmp_ge (tgt := 88) X dX1_faultPlace_15 (by decide) (fun c15 => ?_) (fun c15 => ?_)
      · rw [if_pos c15] at hf
        exact J_sub [] rfl (hk s1 s2 hf)
      · rw [if_neg c15] at hf
        refine J_aload_n X 0 dX1_faultPlace_18 rfl rfl ?_
        refine J_iload_n X 1 dX1_faultPlace_19 rfl rfl ?_
        obtain ⟨v1, qv1, hf⟩ := ob hf
        refine J_callV X (rest := []) (rs := [.int v1]) (c_X1_actLength l o emb A hA hO s1 h v1 qv1) hO.1 rfl rfl wd_288 wd_289 wd_290 wd_38 wd_291 hd_X1_actLength ⟨Nat.le_of_ble_eq_true rfl, Nat.le_of_ble_eq_true rfl⟩ ⟨Nat.zero_le _, Nat.zero_le _⟩ (Nat.le_of_ble_eq_true rfl) dX1_faultPlace_20 rfl rfl ?_
        refine J_istore_n X [(3, .int v1), (0, .ref (o.1 9)), (1, .int s1), (2, .int s2)] dX1_faultPlace_23 rfl (Nat.le_of_ble_eq_true rfl) rfl ?_
        refine J_iload_n X 0 dX1_faultPlace_24 rfl rfl ?_
        refine J_if_ne (tgt := 30) X dX1_faultPlace_25 (by decide) (fun c25 => ?_) (fun c25 => ?_)
        · rw [if_neg c25] at hf
          refine J_const X (1 : Int32) dX1_faultPlace_30 (by decide) ?_
          refine J_istore X [(4, .int (1 : Int32)), (3, .int v1), (0, .ref (o.1 9)), (1, .int s1), (2, .int s2)] dX1_faultPlace_31 (Nat.le_of_ble_eq_true rfl) rfl ?_
          refine J_sub (lo' := [(0, .ref (o.1 9)), (1, .int s1), (2, .int s2), (3, .int v1), (4, .int (1 : Int32))]) [2, 3, 4, 1, 0] rfl ?_
          refine cf_X1_faultPlace_l33 hA X  hO s1 s2 v1 h r _ (1 : Int32) hf (fun w4 hf => ?_)
          refine J_iload_n X 1 dX1_faultPlace_78 rfl rfl ?_
          refine J_iload_n X 3 dX1_faultPlace_79 rfl rfl ?_
          refine J_iadd X dX1_faultPlace_80 ?_
          obtain ⟨v5, qv5, hf⟩ := ob hf
          refine J_topi v5 (Option.some.inj qv5) ?_
          refine J_istore_n X [(1, .int v5), (0, .ref (o.1 9)), (2, .int s2), (3, .int v1)] dX1_faultPlace_81 rfl (Nat.le_of_ble_eq_true rfl) rfl ?_
          obtain ⟨v6, qv6, hf⟩ := ob hf
          refine J_iinc X 2 [(2, .int v6), (1, .int v5), (0, .ref (o.1 9)), (3, .int v1)] dX1_faultPlace_82 rfl (Option.some.inj qv6) (Nat.le_of_ble_eq_true rfl) rfl ?_
          refine J_goto (tgt := 4) X dX1_faultPlace_85 (by decide) ?_
          exact J_sub [2, 1, 0] rfl (ih v5 v6 hf hk)
        · rw [if_pos c25] at hf
          refine J_iload_n X 2 dX1_faultPlace_28 rfl rfl ?_
          cases hf
          exact J_iret X dX1_faultPlace_29
set_option maxHeartbeats 4000000 in
set_option maxRecDepth 100000 in
theorem c_X1_faultPlace (l : Launch) (o : Om) (emb : Hp → va_W) (A : Nat → Prop) (hA : ∀ h : Hp, va_D A (emb h)) (hO : isX1 o emb) (h : Hp) (r : Int32) (hf : f_X1_faultPlace h = some r) : Ct l o emb A yX1_faultPlace cX1_faultPlace 5 (some .int) 4 87 [.ref (o.1 9)] h (some (.int r)) h := by
  refine Ct.of RX1 rfl (by decide +kernel) hA (Nat.le_of_ble_eq_true rfl) (fun p e s m args below meth c X => ?_)
  refine J_sub (lo' := [(0, .ref (o.1 9))]) [0] rfl ?_
  rw [f_X1_faultPlace] at hf
  refine J_const X (0 : Int32) dX1_faultPlace_0 (by decide) ?_
  refine J_istore_n X [(1, .int (0 : Int32)), (0, .ref (o.1 9))] dX1_faultPlace_1 rfl (Nat.le_of_ble_eq_true rfl) rfl ?_
  refine J_const X (0 : Int32) dX1_faultPlace_2 (by decide) ?_
  refine J_istore_n X [(2, .int (0 : Int32)), (1, .int (0 : Int32)), (0, .ref (o.1 9))] dX1_faultPlace_3 rfl (Nat.le_of_ble_eq_true rfl) rfl ?_
  refine J_sub (lo' := [(0, .ref (o.1 9)), (1, .int (0 : Int32)), (2, .int (0 : Int32))]) [2, 1, 0] rfl ?_
  refine cf_X1_faultPlace_l4 hA X  hO  h r _ (0 : Int32) (0 : Int32) hf (fun w7 w8 hf => ?_)
  refine J_bipush X (-6 : Int32) dX1_faultPlace_88 (by decide) ?_
  cases hf
  exact J_iret X dX1_faultPlace_90
theorem hd_X2_copyFrom : yX2_copyFrom.cls ≠ "java/lang/invoke/MethodHandle" ∧ yX2_copyFrom.cls ≠ "java/lang/invoke/VarHandle" ∧ (parseMethodDescriptor yX2_copyFrom.desc).map (fun d => d.parameters.length) = some 1 := by decide +kernel
set_option maxHeartbeats 4000000 in
set_option maxRecDepth 100000 in
theorem c_X2_copyFrom (l : Launch) (o : Om) (emb : Hp → va_W) (A : Nat → Prop) (hA : ∀ h : Hp, va_D A (emb h)) (a : Nat) (b1 : Nat) (hO : isX2 o emb a) (hB1 : isX2 o emb b1) (h : Hp)  (h' : Hp) (hf : f_X2_copyFrom a b1 h = some h') : Ct l o emb A yX2_copyFrom cX2_copyFrom 2 none 1 22 [.ref (o.1 a), .ref (o.1 b1)] h none h' := by
  refine Ct.of RX2 rfl (by decide +kernel) hA (Nat.le_of_ble_eq_true rfl) (fun p e s m args below meth c X => ?_)
  refine J_sub (lo' := [(0, .ref (o.1 a)), (1, .ref (o.1 b1))]) [0, 1] rfl ?_
  rw [f_X2_copyFrom] at hf
  refine J_aload_n X 1 dX2_copyFrom_0 rfl rfl ?_
  refine J_get X hB1.1 inX2 rfl 0 (Nat.le_of_ble_eq_true rfl) wd_61 rfl (v := .ref (o.1 (b1 + 1))) rfl dX2_copyFrom_1 ?_
  refine J_aload_n X 0 dX2_copyFrom_4 rfl rfl ?_
  refine J_get X hO.1 inX2 rfl 0 (Nat.le_of_ble_eq_true rfl) wd_61 rfl (v := .ref (o.1 (a + 1))) rfl dX2_copyFrom_5 ?_
  obtain ⟨h1, qh1, hf⟩ := ob hf
  refine J_callSN X (rest := []) (rs := []) (c_X5_copy l o emb A hA (b1 + 1) 81 (a + 1) 81 hB1.2.1 hO.2.1 h h1 qh1) nw_323 wd_324 wd_34 wd_325 hd_X5_copy ⟨Nat.le_of_ble_eq_true rfl, Nat.le_of_ble_eq_true rfl⟩ ⟨Nat.zero_le _, Nat.zero_le _⟩ (Nat.le_of_ble_eq_true rfl) dX2_copyFrom_8 rfl rfl ?_
  refine J_aload_n X 1 dX2_copyFrom_11 rfl rfl ?_
  refine J_get X hB1.1 inX2 rfl 1 (Nat.le_of_ble_eq_true rfl) wd_62 rfl (v := .ref (o.1 (b1 + 2))) rfl dX2_copyFrom_12 ?_
  refine J_aload_n X 0 dX2_copyFrom_15 rfl rfl ?_
  refine J_get X hO.1 inX2 rfl 1 (Nat.le_of_ble_eq_true rfl) wd_62 rfl (v := .ref (o.1 (a + 2))) rfl dX2_copyFrom_16 ?_
  obtain ⟨h2, qh2, hf⟩ := ob hf
  refine J_callSN X (rest := []) (rs := []) (c_X5_copy l o emb A hA (b1 + 2) 6 (a + 2) 6 hB1.2.2.1 hO.2.2.1 h1 h2 qh2) nw_323 wd_324 wd_34 wd_325 hd_X5_copy ⟨Nat.le_of_ble_eq_true rfl, Nat.le_of_ble_eq_true rfl⟩ ⟨Nat.zero_le _, Nat.zero_le _⟩ (Nat.le_of_ble_eq_true rfl) dX2_copyFrom_19 rfl rfl ?_
  refine J_aload_n X 1 dX2_copyFrom_22 rfl rfl ?_
  refine J_get X hB1.1 inX2 rfl 2 (Nat.le_of_ble_eq_true rfl) wd_63 rfl (v := .ref (o.1 (b1 + 3))) rfl dX2_copyFrom_23 ?_
  refine J_aload_n X 0 dX2_copyFrom_26 rfl rfl ?_
  refine J_get X hO.1 inX2 rfl 2 (Nat.le_of_ble_eq_true rfl) wd_63 rfl (v := .ref (o.1 (a + 3))) rfl dX2_copyFrom_27 ?_
  obtain ⟨h3, qh3, hf⟩ := ob hf
  refine J_callSN X (rest := []) (rs := []) (c_X5_copy l o emb A hA (b1 + 3) 6 (a + 3) 6 hB1.2.2.2 hO.2.2.2 h2 h3 qh3) nw_323 wd_324 wd_34 wd_325 hd_X5_copy ⟨Nat.le_of_ble_eq_true rfl, Nat.le_of_ble_eq_true rfl⟩ ⟨Nat.zero_le _, Nat.zero_le _⟩ (Nat.le_of_ble_eq_true rfl) dX2_copyFrom_30 rfl rfl ?_
  refine J_aload_n X 0 dX2_copyFrom_33 rfl rfl ?_
  refine J_aload_n X 1 dX2_copyFrom_34 rfl rfl ?_
  refine J_get X hB1.1 inX2 rfl 3 (Nat.le_of_ble_eq_true rfl) wd_64 rfl (v := .int (h3.1 b1 3)) rfl dX2_copyFrom_35 ?_
  obtain ⟨h4, qh4, hf⟩ := ob hf
  refine J_put X hO.1 inX2 tyX2 tyX2_ok nmX2 rfl 3 (Nat.le_of_ble_eq_true rfl) (by decide) wd_64 rfl rfl (ty := .int) (by decide +kernel) rfl rfl (Nat.le_of_ble_eq_true rfl) dX2_copyFrom_38 ?_
  refine J_hp h4 (Option.some.inj qh4) ?_
  refine J_aload_n X 0 dX2_copyFrom_41 rfl rfl ?_
  refine J_bipush X (-6 : Int32) dX2_copyFrom_42 (by decide) ?_
  obtain ⟨h5, qh5, hf⟩ := ob hf
  refine J_put X hO.1 inX2 tyX2 tyX2_ok nmX2 rfl 4 (Nat.le_of_ble_eq_true rfl) (by decide) wd_66 rfl rfl (ty := .int) (by decide +kernel) rfl rfl (Nat.le_of_ble_eq_true rfl) dX2_copyFrom_44 ?_
  refine J_hp h5 (Option.some.inj qh5) ?_
  cases hf
  exact J_vret X dX2_copyFrom_47
theorem hd_X2_roadBetween : yX2_roadBetween.cls ≠ "java/lang/invoke/MethodHandle" ∧ yX2_roadBetween.cls ≠ "java/lang/invoke/VarHandle" ∧ (parseMethodDescriptor yX2_roadBetween.desc).map (fun d => d.parameters.length) = some 2 := by decide +kernel
set_option maxHeartbeats 4000000 in
set_option maxRecDepth 100000 in
theorem c_X2_roadBetween (l : Launch) (o : Om) (emb : Hp → va_W) (A : Nat → Prop) (hA : ∀ h : Hp, va_D A (emb h)) (a : Nat) (hO : isX2 o emb a) (x1 : Int32) (x2 : Int32) (h : Hp) (r : Int32) (hf : f_X2_roadBetween a x1 x2 h = some r) : Ct l o emb A yX2_roadBetween cX2_roadBetween 3 (some .int) 1 21 [.ref (o.1 a), .int x1, .int x2] h (some (.int r)) h := by
  refine Ct.of RX2 rfl (by decide +kernel) hA (Nat.le_of_ble_eq_true rfl) (fun p e s m args below meth c X => ?_)
  refine J_sub (lo' := [(0, .ref (o.1 a)), (1, .int x1), (2, .int x2)]) [0, 1, 2] rfl ?_
  rw [f_X2_roadBetween] at hf
  refine J_iload_n X 1 dX2_roadBetween_0 rfl rfl ?_
  refine J_iload_n X 2 dX2_roadBetween_1 rfl rfl ?_
  obtain ⟨v1, qv1, hf⟩ := ob hf
  refine J_callSN X (rest := []) (rs := [.int v1]) (c_X5_areTwoPlaces l o emb A hA x1 x2 h v1 qv1) nw_223 wd_214 wd_34 wd_215 hd_X5_areTwoPlaces ⟨Nat.le_of_ble_eq_true rfl, Nat.le_of_ble_eq_true rfl⟩ ⟨Nat.zero_le _, Nat.zero_le _⟩ (Nat.le_of_ble_eq_true rfl) dX2_roadBetween_2 rfl rfl ?_
  refine J_if_eq (tgt := 24) X dX2_roadBetween_5 (by decide) (fun c5 => ?_) (fun c5 => ?_)
  · rw [if_pos c5] at hf
    refine J_bipush X (-6 : Int32) dX2_roadBetween_24 (by decide) ?_
    cases hf
    exact J_iret X dX2_roadBetween_26
  · rw [if_neg c5] at hf
    refine J_aload_n X 0 dX2_roadBetween_8 rfl rfl ?_
    refine J_get X hO.1 inX2 rfl 0 (Nat.le_of_ble_eq_true rfl) wd_61 rfl (v := .ref (o.1 (a + 1))) rfl dX2_roadBetween_9 ?_
    refine J_iload_n X 1 dX2_roadBetween_12 rfl rfl ?_
    refine J_bipush X (9 : Int32) dX2_roadBetween_13 (by decide) ?_
    refine J_imul X dX2_roadBetween_15 ?_
    refine J_iload_n X 2 dX2_roadBetween_16 rfl rfl ?_
    refine J_iadd X dX2_roadBetween_17 ?_
    obtain ⟨v2, qv2, hf⟩ := ob hf
    refine J_callSN X (rest := []) (rs := [.int v2]) (c_X5_at l o emb A hA (a + 1) 81 hO.2.1 ((x1 * (9 : Int32)) + x2) h v2 qv2) nw_254 wd_255 wd_34 wd_256 hd_X5_at ⟨Nat.le_of_ble_eq_true rfl, Nat.le_of_ble_eq_true rfl⟩ ⟨Nat.zero_le _, Nat.zero_le _⟩ (Nat.le_of_ble_eq_true rfl) dX2_roadBetween_18 rfl rfl ?_
    refine J_goto (tgt := 26) X dX2_roadBetween_21 (by decide) ?_
    cases hf
    exact J_iret X dX2_roadBetween_26
theorem hd_X2_putRoad : yX2_putRoad.cls ≠ "java/lang/invoke/MethodHandle" ∧ yX2_putRoad.cls ≠ "java/lang/invoke/VarHandle" ∧ (parseMethodDescriptor yX2_putRoad.desc).map (fun d => d.parameters.length) = some 3 := by decide +kernel
set_option maxHeartbeats 4000000 in
set_option maxRecDepth 100000 in
theorem c_X2_putRoad (l : Launch) (o : Om) (emb : Hp → va_W) (A : Nat → Prop) (hA : ∀ h : Hp, va_D A (emb h)) (a : Nat) (hO : isX2 o emb a) (x1 : Int32) (x2 : Int32) (x3 : Int32) (h : Hp)  (h' : Hp) (hf : f_X2_putRoad a x1 x2 x3 h = some h') : Ct l o emb A yX2_putRoad cX2_putRoad 4 none 1 22 [.ref (o.1 a), .int x1, .int x2, .int x3] h none h' := by
  refine Ct.of RX2 rfl (by decide +kernel) hA (Nat.le_of_ble_eq_true rfl) (fun p e s m args below meth c X => ?_)
  refine J_sub (lo' := [(0, .ref (o.1 a)), (1, .int x1), (2, .int x2), (3, .int x3)]) [0, 1, 2, 3] rfl ?_
  rw [f_X2_putRoad] at hf
  refine J_iload_n X 1 dX2_putRoad_0 rfl rfl ?_
  refine J_iload_n X 2 dX2_putRoad_1 rfl rfl ?_
  obtain ⟨v1, qv1, hf⟩ := ob hf
  refine J_callSN X (rest := []) (rs := [.int v1]) (c_X5_areTwoPlaces l o emb A hA x1 x2 h v1 qv1) nw_223 wd_214 wd_34 wd_215 hd_X5_areTwoPlaces ⟨Nat.le_of_ble_eq_true rfl, Nat.le_of_ble_eq_true rfl⟩ ⟨Nat.zero_le _, Nat.zero_le _⟩ (Nat.le_of_ble_eq_true rfl) dX2_putRoad_2 rfl rfl ?_
  refine J_if_ne (tgt := 9) X dX2_putRoad_5 (by decide) (fun c5 => ?_) (fun c5 => ?_)
  · rw [if_neg c5] at hf
    refine J_aload_n X 0 dX2_putRoad_9 rfl rfl ?_
    refine J_get X hO.1 inX2 rfl 0 (Nat.le_of_ble_eq_true rfl) wd_61 rfl (v := .ref (o.1 (a + 1))) rfl dX2_putRoad_10 ?_
    refine J_iload_n X 1 dX2_putRoad_13 rfl rfl ?_
    refine J_bipush X (9 : Int32) dX2_putRoad_14 (by decide) ?_
    refine J_imul X dX2_putRoad_16 ?_
    refine J_iload_n X 2 dX2_putRoad_17 rfl rfl ?_
    refine J_iadd X dX2_putRoad_18 ?_
    refine J_iload_n X 3 dX2_putRoad_19 rfl rfl ?_
    obtain ⟨h2, qh2, hf⟩ := ob hf
    refine J_callSN X (rest := []) (rs := []) (c_X5_put l o emb A hA (a + 1) 81 hO.2.1 ((x1 * (9 : Int32)) + x2) x3 h h2 qh2) nw_224 wd_225 wd_34 wd_226 hd_X5_put ⟨Nat.le_of_ble_eq_true rfl, Nat.le_of_ble_eq_true rfl⟩ ⟨Nat.zero_le _, Nat.zero_le _⟩ (Nat.le_of_ble_eq_true rfl) dX2_putRoad_20 rfl rfl ?_
    refine J_aload_n X 0 dX2_putRoad_23 rfl rfl ?_
    refine J_get X hO.1 inX2 rfl 0 (Nat.le_of_ble_eq_true rfl) wd_61 rfl (v := .ref (o.1 (a + 1))) rfl dX2_putRoad_24 ?_
    refine J_iload_n X 2 dX2_putRoad_27 rfl rfl ?_
    refine J_bipush X (9 : Int32) dX2_putRoad_28 (by decide) ?_
    refine J_imul X dX2_putRoad_30 ?_
    refine J_iload_n X 1 dX2_putRoad_31 rfl rfl ?_
    refine J_iadd X dX2_putRoad_32 ?_
    refine J_iload_n X 3 dX2_putRoad_33 rfl rfl ?_
    obtain ⟨h3, qh3, hf⟩ := ob hf
    refine J_callSN X (rest := []) (rs := []) (c_X5_put l o emb A hA (a + 1) 81 hO.2.1 ((x2 * (9 : Int32)) + x1) x3 h2 h3 qh3) nw_224 wd_225 wd_34 wd_226 hd_X5_put ⟨Nat.le_of_ble_eq_true rfl, Nat.le_of_ble_eq_true rfl⟩ ⟨Nat.zero_le _, Nat.zero_le _⟩ (Nat.le_of_ble_eq_true rfl) dX2_putRoad_34 rfl rfl ?_
    cases hf
    exact J_vret X dX2_putRoad_37
  · rw [if_pos c5] at hf
    cases hf
    exact J_vret X dX2_putRoad_8
theorem hd_X2_isOpen : yX2_isOpen.cls ≠ "java/lang/invoke/MethodHandle" ∧ yX2_isOpen.cls ≠ "java/lang/invoke/VarHandle" ∧ (parseMethodDescriptor yX2_isOpen.desc).map (fun d => d.parameters.length) = some 2 := by decide +kernel
set_option maxHeartbeats 4000000 in
set_option maxRecDepth 100000 in
theorem c_X2_isOpen (l : Launch) (o : Om) (emb : Hp → va_W) (A : Nat → Prop) (hA : ∀ h : Hp, va_D A (emb h)) (a : Nat) (hO : isX2 o emb a) (x1 : Int32) (x2 : Int32) (h : Hp) (r : Int32) (hf : f_X2_isOpen a x1 x2 h = some r) : Ct l o emb A yX2_isOpen cX2_isOpen 3 (some .boolean) 2 43 [.ref (o.1 a), .int x1, .int x2] h (some (.int r)) h := by
  refine Ct.of RX2 rfl (by decide +kernel) hA (Nat.le_of_ble_eq_true rfl) (fun p e s m args below meth c X => ?_)
  refine J_sub (lo' := [(0, .ref (o.1 a)), (1, .int x1), (2, .int x2)]) [0, 1, 2] rfl ?_
  rw [f_X2_isOpen] at hf
  refine J_aload_n X 0 dX2_isOpen_0 rfl rfl ?_
  refine J_iload_n X 1 dX2_isOpen_1 rfl rfl ?_
  refine J_iload_n X 2 dX2_isOpen_2 rfl rfl ?_
  obtain ⟨v1, qv1, hf⟩ := ob hf
  refine J_callV X (rest := []) (rs := [.int v1]) (c_X2_roadBetween l o emb A hA a hO x1 x2 h v1 qv1) hO.1 rfl rfl wd_340 wd_341 wd_342 wd_35 wd_343 hd_X2_roadBetween ⟨Nat.le_of_ble_eq_true rfl, Nat.le_of_ble_eq_true rfl⟩ ⟨Nat.zero_le _, Nat.zero_le _⟩ (Nat.le_of_ble_eq_true rfl) dX2_isOpen_3 rfl rfl ?_
  refine J_const X (0 : Int32) dX2_isOpen_6 (by decide) ?_
  refine J_bipush X (8 : Int32) dX2_isOpen_7 (by decide) ?_
  obtain ⟨v2, qv2, hf⟩ := ob hf
  refine J_callSN X (rest := []) (rs := [.int v2]) (c_X5_within l o emb A hA v1 (0 : Int32) (8 : Int32) h v2 qv2) nw_405 wd_217 wd_34 wd_218 hd_X5_within ⟨Nat.le_of_ble_eq_true rfl, Nat.le_of_ble_eq_true rfl⟩ ⟨Nat.zero_le _, Nat.zero_le _⟩ (Nat.le_of_ble_eq_true rfl) dX2_isOpen_9 rfl rfl ?_
  obtain ⟨v3, qv3, hf⟩ := ob hf
  have zv3 := (zck_s qv3).1
  have yv3 := (zck_s qv3).2
  rw [yv3] at zv3
  refine J_topi v3 yv3 ?_
  cases hf
  exact J_zret X zv3 dX2_isOpen_12
theorem hd_X2_openFrom : yX2_openFrom.cls ≠ "java/lang/invoke/MethodHandle" ∧ yX2_openFrom.cls ≠ "java/lang/invoke/VarHandle" ∧ (parseMethodDescriptor yX2_openFrom.desc).map (fun d => d.parameters.length) = some 1 := by decide +kernel
set_option maxHeartbeats 4000000 in
set_option maxRecDepth 100000 in
theorem cf_X2_openFrom_l4 {R : Type} (hA : ∀ h : Hp, va_D A (emb h)) (X : Cx p s m args meth c RX2 cX2_openFrom 4 (some .int) o) (a : Nat) (hO : isX2 o emb a) (s1 : Int32) (h : Hp) {kx : Int32 → Int32 → Option R} (t : R) : ∀ (n : Nat) (s2 : Int32) (s3 : Int32), f_X2_openFrom_l4 a s1 h kx n s2 s3 = some t → (∀ (s2 : Int32) (s3 : Int32), kx s2 s3 = some t → J p l e (rmf 3 65) s m args below meth c 0 0 Z o emb A H0 4 31 [(2, .int s2)] [] h) → J p l e (rmf 3 65) s m args below meth c 0 0 Z o emb A H0 4 4 [(0, .ref (o.1 a)), (1, .int s1), (2, .int s2), (3, .int s3)] [] h := by
  intro n
  induction n with
  | zero =>
    intro s2 s3 hf hk
    cases hf
  | succ n ih =>
    intro s2 s3 hf hk
    rw [f_X2_openFrom_l4] at hf
    refine J_iload_n X 3 dX2_openFrom_4 rfl rfl ?_
    refine J_bipush X (9 : Int32) dX2_openFrom_5 (by decide) ?_
    refine J_icmp_ge (tgt := 31) X dX2_openFrom_7 (by decide) (fun c7 => ?_) (fun c7 => ?_)
    · rw [if_pos c7] at hf
      exact J_sub [2] rfl (hk s2 s3 hf)
    · rw [if_neg c7] at hf
      refine J_aload_n X 0 dX2_openFrom_10 rfl rfl ?_
      refine J_iload_n X 1 dX2_openFrom_11 rfl rfl ?_
      refine J_iload_n X 3 dX2_openFrom_12 rfl rfl ?_
      obtain ⟨v1, qv1, hf⟩ := ob hf
      refine J_callV X (rest := []) (rs := [.int v1]) (c_X2_isOpen l o emb A hA a hO s1 s3 h v1 qv1) hO.1 rfl rfl wd_414 wd_415 wd_416 wd_35 wd_417 hd_X2_isOpen ⟨Nat.le_of_ble_eq_true rfl, Nat.le_of_ble_eq_true rfl⟩ ⟨Nat.zero_le _, Nat.zero_le _⟩ (Nat.le_of_ble_eq_true rfl) dX2_openFrom_13 rfl rfl ?_
      refine J_if_eq (tgt := 25) X dX2_openFrom_16 (by decide) (fun c16 => ?_) (fun c16 => ?_)
      · rw [if_pos c16] at hf
        obtain ⟨v2, qv2, hf⟩ := ob hf
        refine J_iinc X 3 [(3, .int v2), (0, .ref (o.1 a)), (1, .int s1), (2, .int s2)] dX2_openFrom_25 rfl (Option.some.inj qv2) (Nat.le_of_ble_eq_true rfl) rfl ?_
        refine J_goto (tgt := 4) X dX2_openFrom_28 (by decide) ?_
        exact J_sub [1, 2, 3, 0] rfl (ih s2 v2 hf hk)
      · rw [if_neg c16] at hf
        refine J_iload_n X 2 dX2_openFrom_19 rfl rfl ?_
        refine J_const X (1 : Int32) dX2_openFrom_20 (by decide) ?_
        refine J_iload_n X 3 dX2_openFrom_21 rfl rfl ?_
        refine J_ishl X dX2_openFrom_22 ?_
        refine J_ior X dX2_openFrom_23 ?_
        obtain ⟨v3, qv3, hf⟩ := ob hf
        refine J_topi v3 (Option.some.inj qv3) ?_
        refine J_istore_n X [(2, .int v3), (0, .ref (o.1 a)), (1, .int s1), (3, .int s3)] dX2_openFrom_24 rfl (Nat.le_of_ble_eq_true rfl) rfl ?_
        obtain ⟨v4, qv4, hf⟩ := ob hf
        refine J_iinc X 3 [(3, .int v4), (2, .int v3), (0, .ref (o.1 a)), (1, .int s1)] dX2_openFrom_25 rfl (Option.some.inj qv4) (Nat.le_of_ble_eq_true rfl) rfl ?_
        refine J_goto (tgt := 4) X dX2_openFrom_28 (by decide) ?_
        exact J_sub [2, 3, 1, 0] rfl (ih v3 v4 hf hk)
set_option maxHeartbeats 4000000 in
set_option maxRecDepth 100000 in
theorem c_X2_openFrom (l : Launch) (o : Om) (emb : Hp → va_W) (A : Nat → Prop) (hA : ∀ h : Hp, va_D A (emb h)) (a : Nat) (hO : isX2 o emb a) (x1 : Int32) (h : Hp) (r : Int32) (hf : f_X2_openFrom a x1 h = some r) : Ct l o emb A yX2_openFrom cX2_openFrom 4 (some .int) 3 65 [.ref (o.1 a), .int x1] h (some (.int r)) h := by
  refine Ct.of RX2 rfl (by decide +kernel) hA (Nat.le_of_ble_eq_true rfl) (fun p e s m args below meth c X => ?_)
  refine J_sub (lo' := [(0, .ref (o.1 a)), (1, .int x1)]) [0, 1] rfl ?_
  rw [f_X2_openFrom] at hf
  refine J_const X (0 : Int32) dX2_openFrom_0 (by decide) ?_
  refine J_istore_n X [(2, .int (0 : Int32)), (0, .ref (o.1 a)), (1, .int x1)] dX2_openFrom_1 rfl (Nat.le_of_ble_eq_true rfl) rfl ?_
  refine J_const X (0 : Int32) dX2_openFrom_2 (by decide) ?_
  refine J_istore_n X [(3, .int (0 : Int32)), (2, .int (0 : Int32)), (0, .ref (o.1 a)), (1, .int x1)] dX2_openFrom_3 rfl (Nat.le_of_ble_eq_true rfl) rfl ?_
  refine J_sub (lo' := [(0, .ref (o.1 a)), (1, .int x1), (2, .int (0 : Int32)), (3, .int (0 : Int32))]) [2, 3, 1, 0] rfl ?_
  refine cf_X2_openFrom_l4 hA X a hO x1 h _ _ (0 : Int32) (0 : Int32) hf (fun w5 w6 hf => ?_)
  refine J_iload_n X 0 dX2_openFrom_31 rfl rfl ?_
  cases hf
  exact J_iret X dX2_openFrom_32
theorem hd_X2_countRoads : yX2_countRoads.cls ≠ "java/lang/invoke/MethodHandle" ∧ yX2_countRoads.cls ≠ "java/lang/invoke/VarHandle" ∧ (parseMethodDescriptor yX2_countRoads.desc).map (fun d => d.parameters.length) = some 0 := by decide +kernel
set_option maxHeartbeats 4000000 in
set_option maxRecDepth 100000 in
theorem cf_X2_countRoads_l4 {R : Type} (hA : ∀ h : Hp, va_D A (emb h)) (X : Cx p s m args meth c RX2 cX2_countRoads 3 (some .int) o) (a : Nat) (hO : isX2 o emb a)  (h : Hp) {kx : Int32 → Int32 → Option R} (t : R) : ∀ (n : Nat) (s1 : Int32) (s2 : Int32), f_X2_countRoads_l4 a h kx n s1 s2 = some t → (∀ (s1 : Int32) (s2 : Int32), kx s1 s2 = some t → J p l e (rmf 0 0) s m args below meth c 0 0 Z o emb A H0 3 33 [(1, .int s1)] [] h) → J p l e (rmf 0 0) s m args below meth c 0 0 Z o emb A H0 3 4 [(0, .ref (o.1 a)), (1, .int s1), (2, .int s2)] [] h := by
  intro n
  induction n with
  | zero =>
    intro s1 s2 hf hk
    cases hf
  | succ n ih =>
    intro s1 s2 hf hk
    rw [f_X2_countRoads_l4] at hf
    refine J_iload_n X 2 dX2_countRoads_4 rfl rfl ?_
    refine J_aload_n X 0 dX2_countRoads_5 rfl rfl ?_
    refine J_get X hO.1 inX2 rfl 0 (Nat.le_of_ble_eq_true rfl) wd_61 rfl (v := .ref (o.1 (a + 1))) rfl dX2_countRoads_6 ?_
    refine J_alenI X hO.2.1 (81 : Int32) (by decide) dX2_countRoads_9 ?_
    refine J_icmp_ge (tgt := 33) X dX2_countRoads_10 (by decide) (fun c10 => ?_) (fun c10 => ?_)
    · rw [if_pos c10] at hf
      exact J_sub [1] rfl (hk s1 s2 hf)
    · rw [if_neg c10] at hf
      refine J_aload_n X 0 dX2_countRoads_13 rfl rfl ?_
      refine J_get X hO.1 inX2 rfl 0 (Nat.le_of_ble_eq_true rfl) wd_61 rfl (v := .ref (o.1 (a + 1))) rfl dX2_countRoads_14 ?_
      refine J_iload_n X 2 dX2_countRoads_17 rfl rfl ?_
      obtain ⟨v1, qv1, hf⟩ := ob hf
      refine J_iald X hO.2.1 (ald_s qv1).1 dX2_countRoads_18 ?_
      refine J_topi v1 (ald_s qv1).2 ?_
      refine J_bipush X (-6 : Int32) dX2_countRoads_19 (by decide) ?_
      refine J_icmp_eq (tgt := 27) X dX2_countRoads_21 (by decide) (fun c21 => ?_) (fun c21 => ?_)
      · rw [if_pos c21] at hf
        obtain ⟨v2, qv2, hf⟩ := ob hf
        refine J_iinc X 2 [(2, .int v2), (0, .ref (o.1 a)), (1, .int s1)] dX2_countRoads_27 rfl (Option.some.inj qv2) (Nat.le_of_ble_eq_true rfl) rfl ?_
        refine J_goto (tgt := 4) X dX2_countRoads_30 (by decide) ?_
        exact J_sub [1, 2, 0] rfl (ih s1 v2 hf hk)
      · rw [if_neg c21] at hf
        obtain ⟨v3, qv3, hf⟩ := ob hf
        refine J_iinc X 1 [(1, .int v3), (0, .ref (o.1 a)), (2, .int s2)] dX2_countRoads_24 rfl (Option.some.inj qv3) (Nat.le_of_ble_eq_true rfl) rfl ?_
        obtain ⟨v4, qv4, hf⟩ := ob hf
        refine J_iinc X 2 [(2, .int v4), (1, .int v3), (0, .ref (o.1 a))] dX2_countRoads_27 rfl (Option.some.inj qv4) (Nat.le_of_ble_eq_true rfl) rfl ?_
        refine J_goto (tgt := 4) X dX2_countRoads_30 (by decide) ?_
        exact J_sub [2, 1, 0] rfl (ih v3 v4 hf hk)
set_option maxHeartbeats 4000000 in
set_option maxRecDepth 100000 in
theorem c_X2_countRoads (l : Launch) (o : Om) (emb : Hp → va_W) (A : Nat → Prop) (hA : ∀ h : Hp, va_D A (emb h)) (a : Nat) (hO : isX2 o emb a) (h : Hp) (r : Int32) (hf : f_X2_countRoads a h = some r) : Ct l o emb A yX2_countRoads cX2_countRoads 3 (some .int) 0 0 [.ref (o.1 a)] h (some (.int r)) h := by
  refine Ct.of RX2 rfl (by decide +kernel) hA (Nat.le_of_ble_eq_true rfl) (fun p e s m args below meth c X => ?_)
  refine J_sub (lo' := [(0, .ref (o.1 a))]) [0] rfl ?_
  rw [f_X2_countRoads] at hf
  refine J_const X (0 : Int32) dX2_countRoads_0 (by decide) ?_
  refine J_istore_n X [(1, .int (0 : Int32)), (0, .ref (o.1 a))] dX2_countRoads_1 rfl (Nat.le_of_ble_eq_true rfl) rfl ?_
  refine J_const X (0 : Int32) dX2_countRoads_2 (by decide) ?_
  refine J_istore_n X [(2, .int (0 : Int32)), (1, .int (0 : Int32)), (0, .ref (o.1 a))] dX2_countRoads_3 rfl (Nat.le_of_ble_eq_true rfl) rfl ?_
  refine J_sub (lo' := [(0, .ref (o.1 a)), (1, .int (0 : Int32)), (2, .int (0 : Int32))]) [2, 1, 0] rfl ?_
  refine cf_X2_countRoads_l4 hA X a hO  h _ _ (0 : Int32) (0 : Int32) hf (fun w5 w6 hf => ?_)
  refine J_iload_n X 0 dX2_countRoads_33 rfl rfl ?_
  refine J_const X (2 : Int32) dX2_countRoads_34 (by decide) ?_
  refine J_idiv X dX2_countRoads_35 (by decide) ?_
  cases hf
  exact J_iret X dX2_countRoads_36
theorem hd_X2_countOpen : yX2_countOpen.cls ≠ "java/lang/invoke/MethodHandle" ∧ yX2_countOpen.cls ≠ "java/lang/invoke/VarHandle" ∧ (parseMethodDescriptor yX2_countOpen.desc).map (fun d => d.parameters.length) = some 0 := by decide +kernel
set_option maxHeartbeats 4000000 in
set_option maxRecDepth 100000 in
theorem cf_X2_countOpen_l4 {R : Type} (hA : ∀ h : Hp, va_D A (emb h)) (X : Cx p s m args meth c RX2 cX2_countOpen 3 (some .int) o) (a : Nat) (hO : isX2 o emb a)  (h : Hp) {kx : Int32 → Int32 → Option R} (t : R) : ∀ (n : Nat) (s1 : Int32) (s2 : Int32), f_X2_countOpen_l4 a h kx n s1 s2 = some t → (∀ (s1 : Int32) (s2 : Int32), kx s1 s2 = some t → J p l e (rmf 4 88) s m args below meth c 0 0 Z o emb A H0 3 27 [(1, .int s1)] [] h) → J p l e (rmf 4 88) s m args below meth c 0 0 Z o emb A H0 3 4 [(0, .ref (o.1 a)), (1, .int s1), (2, .int s2)] [] h := by
  intro n
  induction n with
  | zero =>
    intro s1 s2 hf hk
    cases hf
  | succ n ih =>
    intro s1 s2 hf hk
    rw [f_X2_countOpen_l4] at hf
    refine J_iload_n X 2 dX2_countOpen_4 rfl rfl ?_
    refine J_bipush X (9 : Int32) dX2_countOpen_5 (by decide) ?_
    refine J_icmp_ge (tgt := 27) X dX2_countOpen_7 (by decide) (fun c7 => ?_) (fun c7 => ?_)
    · rw [if_pos c7] at hf
      exact J_sub [1] rfl (hk s1 s2 hf)
    · rw [if_neg c7] at hf
      refine J_iload_n X 1 dX2_countOpen_10 rfl rfl ?_
      refine J_aload_n X 0 dX2_countOpen_11 rfl rfl ?_
      refine J_iload_n X 2 dX2_countOpen_12 rfl rfl ?_
      obtain ⟨v1, qv1, hf⟩ := ob hf
      refine J_callV X (rest := [.int s1]) (rs := [.int v1, .int s1]) (c_X2_openFrom l o emb A hA a hO s2 h v1 qv1) hO.1 rfl rfl wd_410 wd_411 wd_412 wd_35 wd_413 hd_X2_openFrom ⟨Nat.le_of_ble_eq_true rfl, Nat.le_of_ble_eq_true rfl⟩ ⟨Nat.zero_le _, Nat.zero_le _⟩ (Nat.le_of_ble_eq_true rfl) dX2_countOpen_13 rfl rfl ?_
      obtain ⟨v2, qv2, hf⟩ := ob hf
      refine J_callS X (rest := [.int s1]) (rs := [.int v2, .int s1]) (c_J6_bitCount_0f7a4 l o emb A hA v1 h v2 qv2) wd_567 wd_258 wd_42 wd_259 hd_J6_bitCount_0f7a4 ⟨Nat.le_of_ble_eq_true rfl, Nat.le_of_ble_eq_true rfl⟩ ⟨Nat.zero_le _, Nat.zero_le _⟩ (Nat.le_of_ble_eq_true rfl) dX2_countOpen_16 rfl rfl ?_
      refine J_iadd X dX2_countOpen_19 ?_
      obtain ⟨v3, qv3, hf⟩ := ob hf
      refine J_topi v3 (Option.some.inj qv3) ?_
      refine J_istore_n X [(1, .int v3), (0, .ref (o.1 a)), (2, .int s2)] dX2_countOpen_20 rfl (Nat.le_of_ble_eq_true rfl) rfl ?_
      obtain ⟨v4, qv4, hf⟩ := ob hf
      refine J_iinc X 2 [(2, .int v4), (1, .int v3), (0, .ref (o.1 a))] dX2_countOpen_21 rfl (Option.some.inj qv4) (Nat.le_of_ble_eq_true rfl) rfl ?_
      refine J_goto (tgt := 4) X dX2_countOpen_24 (by decide) ?_
      exact J_sub [2, 1, 0] rfl (ih v3 v4 hf hk)
set_option maxHeartbeats 4000000 in
set_option maxRecDepth 100000 in
theorem c_X2_countOpen (l : Launch) (o : Om) (emb : Hp → va_W) (A : Nat → Prop) (hA : ∀ h : Hp, va_D A (emb h)) (a : Nat) (hO : isX2 o emb a) (h : Hp) (r : Int32) (hf : f_X2_countOpen a h = some r) : Ct l o emb A yX2_countOpen cX2_countOpen 3 (some .int) 4 88 [.ref (o.1 a)] h (some (.int r)) h := by
  refine Ct.of RX2 rfl (by decide +kernel) hA (Nat.le_of_ble_eq_true rfl) (fun p e s m args below meth c X => ?_)
  refine J_sub (lo' := [(0, .ref (o.1 a))]) [0] rfl ?_
  rw [f_X2_countOpen] at hf
  refine J_const X (0 : Int32) dX2_countOpen_0 (by decide) ?_
  refine J_istore_n X [(1, .int (0 : Int32)), (0, .ref (o.1 a))] dX2_countOpen_1 rfl (Nat.le_of_ble_eq_true rfl) rfl ?_
  refine J_const X (0 : Int32) dX2_countOpen_2 (by decide) ?_
  refine J_istore_n X [(2, .int (0 : Int32)), (1, .int (0 : Int32)), (0, .ref (o.1 a))] dX2_countOpen_3 rfl (Nat.le_of_ble_eq_true rfl) rfl ?_
  refine J_sub (lo' := [(0, .ref (o.1 a)), (1, .int (0 : Int32)), (2, .int (0 : Int32))]) [2, 1, 0] rfl ?_
  refine cf_X2_countOpen_l4 hA X a hO  h _ _ (0 : Int32) (0 : Int32) hf (fun w5 w6 hf => ?_)
  refine J_iload_n X 0 dX2_countOpen_27 rfl rfl ?_
  refine J_const X (2 : Int32) dX2_countOpen_28 (by decide) ?_
  refine J_idiv X dX2_countOpen_29 (by decide) ?_
  cases hf
  exact J_iret X dX2_countOpen_30
theorem hd_X2_addWear : yX2_addWear.cls ≠ "java/lang/invoke/MethodHandle" ∧ yX2_addWear.cls ≠ "java/lang/invoke/VarHandle" ∧ (parseMethodDescriptor yX2_addWear.desc).map (fun d => d.parameters.length) = some 0 := by decide +kernel
set_option maxHeartbeats 4000000 in
set_option maxRecDepth 100000 in
theorem cf_X2_addWear_l4 {R : Type} (hA : ∀ h : Hp, va_D A (emb h)) (X : Cx p s m args meth c RX2 cX2_addWear 3 (some .int) o) (a : Nat) (hO : isX2 o emb a)  (h : Hp) {kx : Int32 → Int32 → Option R} (t : R) : ∀ (n : Nat) (s1 : Int32) (s2 : Int32), f_X2_addWear_l4 a h kx n s1 s2 = some t → (∀ (s1 : Int32) (s2 : Int32), kx s1 s2 = some t → J p l e (rmf 1 22) s m args below meth c 0 0 Z o emb A H0 3 43 [(1, .int s1)] [] h) → J p l e (rmf 1 22) s m args below meth c 0 0 Z o emb A H0 3 4 [(0, .ref (o.1 a)), (1, .int s1), (2, .int s2)] [] h := by
  intro n
  induction n with
  | zero =>
    intro s1 s2 hf hk
    cases hf
  | succ n ih =>
    intro s1 s2 hf hk
    rw [f_X2_addWear_l4] at hf
    refine J_iload_n X 2 dX2_addWear_4 rfl rfl ?_
    refine J_aload_n X 0 dX2_addWear_5 rfl rfl ?_
    refine J_get X hO.1 inX2 rfl 0 (Nat.le_of_ble_eq_true rfl) wd_61 rfl (v := .ref (o.1 (a + 1))) rfl dX2_addWear_6 ?_
    refine J_alenI X hO.2.1 (81 : Int32) (by decide) dX2_addWear_9 ?_
    refine J_icmp_ge (tgt := 43) X dX2_addWear_10 (by decide) (fun c10 => ?_) (fun c10 => ?_)
    · rw [if_pos c10] at hf
      exact J_sub [1] rfl (hk s1 s2 hf)
    · rw [if_neg c10] at hf
      refine J_aload_n X 0 dX2_addWear_13 rfl rfl ?_
      refine J_get X hO.1 inX2 rfl 0 (Nat.le_of_ble_eq_true rfl) wd_61 rfl (v := .ref (o.1 (a + 1))) rfl dX2_addWear_14 ?_
      refine J_iload_n X 2 dX2_addWear_17 rfl rfl ?_
      obtain ⟨v1, qv1, hf⟩ := ob hf
      refine J_iald X hO.2.1 (ald_s qv1).1 dX2_addWear_18 ?_
      refine J_topi v1 (ald_s qv1).2 ?_
      refine J_const X (0 : Int32) dX2_addWear_19 (by decide) ?_
      refine J_bipush X (9 : Int32) dX2_addWear_20 (by decide) ?_
      obtain ⟨v2, qv2, hf⟩ := ob hf
      refine J_callSN X (rest := []) (rs := [.int v2]) (c_X5_within l o emb A hA v1 (0 : Int32) (9 : Int32) h v2 qv2) nw_405 wd_217 wd_34 wd_218 hd_X5_within ⟨Nat.le_of_ble_eq_true rfl, Nat.le_of_ble_eq_true rfl⟩ ⟨Nat.zero_le _, Nat.zero_le _⟩ (Nat.le_of_ble_eq_true rfl) dX2_addWear_22 rfl rfl ?_
      refine J_if_eq (tgt := 37) X dX2_addWear_25 (by decide) (fun c25 => ?_) (fun c25 => ?_)
      · rw [if_pos c25] at hf
        obtain ⟨v3, qv3, hf⟩ := ob hf
        refine J_iinc X 2 [(2, .int v3), (0, .ref (o.1 a)), (1, .int s1)] dX2_addWear_37 rfl (Option.some.inj qv3) (Nat.le_of_ble_eq_true rfl) rfl ?_
        refine J_goto (tgt := 4) X dX2_addWear_40 (by decide) ?_
        exact J_sub [1, 2, 0] rfl (ih s1 v3 hf hk)
      · rw [if_neg c25] at hf
        refine J_iload_n X 1 dX2_addWear_28 rfl rfl ?_
        refine J_aload_n X 0 dX2_addWear_29 rfl rfl ?_
        refine J_get X hO.1 inX2 rfl 0 (Nat.le_of_ble_eq_true rfl) wd_61 rfl (v := .ref (o.1 (a + 1))) rfl dX2_addWear_30 ?_
        refine J_iload_n X 2 dX2_addWear_33 rfl rfl ?_
        obtain ⟨v4, qv4, hf⟩ := ob hf
        refine J_iald X hO.2.1 (ald_s qv4).1 dX2_addWear_34 ?_
        refine J_topi v4 (ald_s qv4).2 ?_
        refine J_iadd X dX2_addWear_35 ?_
        obtain ⟨v5, qv5, hf⟩ := ob hf
        refine J_topi v5 (Option.some.inj qv5) ?_
        refine J_istore_n X [(1, .int v5), (0, .ref (o.1 a)), (2, .int s2)] dX2_addWear_36 rfl (Nat.le_of_ble_eq_true rfl) rfl ?_
        obtain ⟨v6, qv6, hf⟩ := ob hf
        refine J_iinc X 2 [(2, .int v6), (1, .int v5), (0, .ref (o.1 a))] dX2_addWear_37 rfl (Option.some.inj qv6) (Nat.le_of_ble_eq_true rfl) rfl ?_
        refine J_goto (tgt := 4) X dX2_addWear_40 (by decide) ?_
        exact J_sub [2, 1, 0] rfl (ih v5 v6 hf hk)
set_option maxHeartbeats 4000000 in
set_option maxRecDepth 100000 in
theorem c_X2_addWear (l : Launch) (o : Om) (emb : Hp → va_W) (A : Nat → Prop) (hA : ∀ h : Hp, va_D A (emb h)) (a : Nat) (hO : isX2 o emb a) (h : Hp) (r : Int32) (hf : f_X2_addWear a h = some r) : Ct l o emb A yX2_addWear cX2_addWear 3 (some .int) 1 22 [.ref (o.1 a)] h (some (.int r)) h := by
  refine Ct.of RX2 rfl (by decide +kernel) hA (Nat.le_of_ble_eq_true rfl) (fun p e s m args below meth c X => ?_)
  refine J_sub (lo' := [(0, .ref (o.1 a))]) [0] rfl ?_
  rw [f_X2_addWear] at hf
  refine J_const X (0 : Int32) dX2_addWear_0 (by decide) ?_
  refine J_istore_n X [(1, .int (0 : Int32)), (0, .ref (o.1 a))] dX2_addWear_1 rfl (Nat.le_of_ble_eq_true rfl) rfl ?_
  refine J_const X (0 : Int32) dX2_addWear_2 (by decide) ?_
  refine J_istore_n X [(2, .int (0 : Int32)), (1, .int (0 : Int32)), (0, .ref (o.1 a))] dX2_addWear_3 rfl (Nat.le_of_ble_eq_true rfl) rfl ?_
  refine J_sub (lo' := [(0, .ref (o.1 a)), (1, .int (0 : Int32)), (2, .int (0 : Int32))]) [2, 1, 0] rfl ?_
  refine cf_X2_addWear_l4 hA X a hO  h _ _ (0 : Int32) (0 : Int32) hf (fun w7 w8 hf => ?_)
  refine J_iload_n X 0 dX2_addWear_43 rfl rfl ?_
  refine J_const X (2 : Int32) dX2_addWear_44 (by decide) ?_
  refine J_idiv X dX2_addWear_45 (by decide) ?_
  cases hf
  exact J_iret X dX2_addWear_46
theorem hd_X2_reached : yX2_reached.cls ≠ "java/lang/invoke/MethodHandle" ∧ yX2_reached.cls ≠ "java/lang/invoke/VarHandle" ∧ (parseMethodDescriptor yX2_reached.desc).map (fun d => d.parameters.length) = some 2 := by decide +kernel
set_option maxHeartbeats 4000000 in
set_option maxRecDepth 100000 in
theorem cf_X2_reached_l27 {R : Type} (hA : ∀ h : Hp, va_D A (emb h)) (X : Cx p s m args meth c RX2 cX2_reached 6 (some .int) o) (a : Nat) (hO : isX2 o emb a) (s1 : Int32) (s4 : Int32) (h : Hp) {kx : Int32 → Int32 → Option R} (t : R) : ∀ (n : Nat) (s3 : Int32) (s5 : Int32), f_X2_reached_l27 a s1 s4 h kx n s3 s5 = some t → (∀ (s3 : Int32) (s5 : Int32), kx s3 s5 = some t → J p l e (rmf 4 88) s m args below meth c 0 0 Z o emb A H0 6 64 [(0, .ref (o.1 a)), (1, .int s1), (3, .int s3), (4, .int s4)] [] h) → J p l e (rmf 4 88) s m args below meth c 0 0 Z o emb A H0 6 27 [(0, .ref (o.1 a)), (1, .int s1), (3, .int s3), (4, .int s4), (5, .int s5)] [] h := by
  intro n
  induction n with
  | zero =>
    intro s3 s5 hf hk
    cases hf
  | succ n ih =>
    intro s3 s5 hf hk
    rw [f_X2_reached_l27] at hf
    refine J_iload X 4 dX2_reached_27 rfl ?_
    refine J_bipush X (9 : Int32) dX2_reached_29 (by decide) ?_
    refine J_icmp_ge (tgt := 64) X dX2_reached_31 (by decide) (fun c31 => ?_) (fun c31 => ?_)
    · rw [if_pos c31] at hf
      exact J_sub [0, 1, 2, 3] rfl (hk s3 s5 hf)
    · rw [if_neg c31] at hf
      refine J_iload X 4 dX2_reached_34 rfl ?_
      refine J_iload_n X 1 dX2_reached_36 rfl rfl ?_
      refine J_icmp_eq (tgt := 58) X dX2_reached_37 (by decide) (fun c37 => ?_) (fun c37 => ?_)
      · rw [if_pos c37] at hf
        obtain ⟨v3, qv3, hf⟩ := ob hf
        refine J_iinc X 4 [(5, .int v3), (0, .ref (o.1 a)), (1, .int s1), (3, .int s3), (4, .int s4)] dX2_reached_58 rfl (Option.some.inj qv3) (Nat.le_of_ble_eq_true rfl) rfl ?_
        refine J_goto (tgt := 27) X dX2_reached_61 (by decide) ?_
        exact J_sub [1, 2, 3, 4, 0] rfl (ih s3 v3 hf hk)
      · rw [if_neg c37] at hf
        refine J_iload_n X 2 dX2_reached_40 rfl rfl ?_
        refine J_iload X 4 dX2_reached_41 rfl ?_
        obtain ⟨v4, qv4, hf⟩ := ob hf
        refine J_callSN X (rest := []) (rs := [.int v4]) (c_X5_holds l o emb A hA s3 s5 h v4 qv4) nw_442 wd_443 wd_34 wd_444 hd_X5_holds ⟨Nat.le_of_ble_eq_true rfl, Nat.le_of_ble_eq_true rfl⟩ ⟨Nat.zero_le _, Nat.zero_le _⟩ (Nat.le_of_ble_eq_true rfl) dX2_reached_43 rfl rfl ?_
        refine J_if_eq (tgt := 58) X dX2_reached_46 (by decide) (fun c46 => ?_) (fun c46 => ?_)
        · rw [if_pos c46] at hf
          obtain ⟨v5, qv5, hf⟩ := ob hf
          refine J_iinc X 4 [(5, .int v5), (0, .ref (o.1 a)), (1, .int s1), (3, .int s3), (4, .int s4)] dX2_reached_58 rfl (Option.some.inj qv5) (Nat.le_of_ble_eq_true rfl) rfl ?_
          refine J_goto (tgt := 27) X dX2_reached_61 (by decide) ?_
          exact J_sub [1, 2, 3, 4, 0] rfl (ih s3 v5 hf hk)
        · rw [if_neg c46] at hf
          refine J_iload_n X 2 dX2_reached_49 rfl rfl ?_
          refine J_aload_n X 0 dX2_reached_50 rfl rfl ?_
          refine J_iload X 4 dX2_reached_51 rfl ?_
          obtain ⟨v6, qv6, hf⟩ := ob hf
          refine J_callV X (rest := [.int s3]) (rs := [.int v6, .int s3]) (c_X2_openFrom l o emb A hA a hO s5 h v6 qv6) hO.1 rfl rfl wd_410 wd_411 wd_412 wd_35 wd_413 hd_X2_openFrom ⟨Nat.le_of_ble_eq_true rfl, Nat.le_of_ble_eq_true rfl⟩ ⟨Nat.zero_le _, Nat.zero_le _⟩ (Nat.le_of_ble_eq_true rfl) dX2_reached_53 rfl rfl ?_
          refine J_ior X dX2_reached_56 ?_
          obtain ⟨v7, qv7, hf⟩ := ob hf
          refine J_topi v7 (Option.some.inj qv7) ?_
          refine J_istore_n X [(3, .int v7), (0, .ref (o.1 a)), (1, .int s1), (4, .int s4), (5, .int s5)] dX2_reached_57 rfl (Nat.le_of_ble_eq_true rfl) rfl ?_
          obtain ⟨v8, qv8, hf⟩ := ob hf
          refine J_iinc X 4 [(5, .int v8), (3, .int v7), (0, .ref (o.1 a)), (1, .int s1), (4, .int s4)] dX2_reached_58 rfl (Option.some.inj qv8) (Nat.le_of_ble_eq_true rfl) rfl ?_
          refine J_goto (tgt := 27) X dX2_reached_61 (by decide) ?_
          exact J_sub [2, 3, 1, 4, 0] rfl (ih v7 v8 hf hk)
set_option maxHeartbeats 4000000 in
set_option maxRecDepth 100000 in
theorem cf_X2_reached_l17 {R : Type} (hA : ∀ h : Hp, va_D A (emb h)) (X : Cx p s m args meth c RX2 cX2_reached 6 (some .int) o) (a : Nat) (hO : isX2 o emb a) (s1 : Int32) (h : Hp) {kx : Int32 → Int32 → Option R} (t : R) : ∀ (n : Nat) (s3 : Int32) (s4 : Int32), f_X2_reached_l17 a s1 h kx n s3 s4 = some t → (∀ (s3 : Int32) (s4 : Int32), kx s3 s4 = some t → J p l e (rmf 4 88) s m args below meth c 0 0 Z o emb A H0 6 70 [(3, .int s3)] [] h) → J p l e (rmf 4 88) s m args below meth c 0 0 Z o emb A H0 6 17 [(0, .ref (o.1 a)), (1, .int s1), (3, .int s3), (4, .int s4)] [] h := by
  intro n
  induction n with
  | zero =>
    intro s3 s4 hf hk
    cases hf
  | succ n ih =>
    intro s3 s4 hf hk
    rw [f_X2_reached_l17] at hf
    refine J_iload X 3 dX2_reached_17 rfl ?_
    refine J_bipush X (9 : Int32) dX2_reached_19 (by decide) ?_
    refine J_icmp_ge (tgt := 70) X dX2_reached_21 (by decide) (fun c21 => ?_) (fun c21 => ?_)
    · rw [if_pos c21] at hf
      exact J_sub [2] rfl (hk s3 s4 hf)
    · rw [if_neg c21] at hf
      refine J_const X (0 : Int32) dX2_reached_24 (by decide) ?_
      refine J_istore X [(5, .int (0 : Int32)), (0, .ref (o.1 a)), (1, .int s1), (3, .int s3), (4, .int s4)] dX2_reached_25 (Nat.le_of_ble_eq_true rfl) rfl ?_
      refine J_sub (lo' := [(0, .ref (o.1 a)), (1, .int s1), (3, .int s3), (4, .int s4), (5, .int (0 : Int32))]) [1, 2, 3, 4, 0] rfl ?_
      refine cf_X2_reached_l27 hA X a hO s1 s4 h _ _ s3 (0 : Int32) hf (fun w9 w10 hf => ?_)
      obtain ⟨v11, qv11, hf⟩ := ob hf
      refine J_iinc X 3 [(4, .int v11), (0, .ref (o.1 a)), (1, .int s1), (3, .int w9)] dX2_reached_64 rfl (Option.some.inj qv11) (Nat.le_of_ble_eq_true rfl) rfl ?_
      refine J_goto (tgt := 17) X dX2_reached_67 (by decide) ?_
      exact J_sub [1, 2, 3, 0] rfl (ih w9 v11 hf hk)
set_option maxHeartbeats 4000000 in
set_option maxRecDepth 100000 in
theorem c_X2_reached (l : Launch) (o : Om) (emb : Hp → va_W) (A : Nat → Prop) (hA : ∀ h : Hp, va_D A (emb h)) (a : Nat) (hO : isX2 o emb a) (x1 : Int32) (x2 : Int32) (h : Hp) (r : Int32) (hf : f_X2_reached a x1 x2 h = some r) : Ct l o emb A yX2_reached cX2_reached 6 (some .int) 4 88 [.ref (o.1 a), .int x1, .int x2] h (some (.int r)) h := by
  refine Ct.of RX2 rfl (by decide +kernel) hA (Nat.le_of_ble_eq_true rfl) (fun p e s m args below meth c X => ?_)
  refine J_sub (lo' := [(0, .ref (o.1 a)), (1, .int x1), (2, .int x2)]) [0, 1, 2] rfl ?_
  rw [f_X2_reached] at hf
  refine J_const X (1 : Int32) dX2_reached_0 (by decide) ?_
  refine J_iload_n X 1 dX2_reached_1 rfl rfl ?_
  refine J_ishl X dX2_reached_2 ?_
  refine J_aload_n X 0 dX2_reached_3 rfl rfl ?_
  refine J_iload_n X 1 dX2_reached_4 rfl rfl ?_
  obtain ⟨v1, qv1, hf⟩ := ob hf
  refine J_callV X (rest := [.int ((1 : Int32) <<< (x1 &&& 31))]) (rs := [.int v1, .int ((1 : Int32) <<< (x1 &&& 31))]) (c_X2_openFrom l o emb A hA a hO x1 h v1 qv1) hO.1 rfl rfl wd_410 wd_411 wd_412 wd_35 wd_413 hd_X2_openFrom ⟨Nat.le_of_ble_eq_true rfl, Nat.le_of_ble_eq_true rfl⟩ ⟨Nat.zero_le _, Nat.zero_le _⟩ (Nat.le_of_ble_eq_true rfl) dX2_reached_5 rfl rfl ?_
  refine J_iload_n X 2 dX2_reached_8 rfl rfl ?_
  refine J_const X (-1 : Int32) dX2_reached_9 (by decide) ?_
  refine J_ixor X dX2_reached_10 ?_
  refine J_iand X dX2_reached_11 ?_
  refine J_ior X dX2_reached_12 ?_
  obtain ⟨v2, qv2, hf⟩ := ob hf
  refine J_topi v2 (Option.some.inj qv2) ?_
  refine J_istore_n X [(3, .int v2), (0, .ref (o.1 a)), (1, .int x1), (2, .int x2)] dX2_reached_13 rfl (Nat.le_of_ble_eq_true rfl) rfl ?_
  refine J_const X (1 : Int32) dX2_reached_14 (by decide) ?_
  refine J_istore X [(4, .int (1 : Int32)), (3, .int v2), (0, .ref (o.1 a)), (1, .int x1), (2, .int x2)] dX2_reached_15 (Nat.le_of_ble_eq_true rfl) rfl ?_
  refine J_sub (lo' := [(0, .ref (o.1 a)), (1, .int x1), (3, .int v2), (4, .int (1 : Int32))]) [2, 3, 1, 0] rfl ?_
  refine cf_X2_reached_l17 hA X a hO x1 h _ _ v2 (1 : Int32) hf (fun w12 w13 hf => ?_)
  refine J_iload_n X 0 dX2_reached_70 rfl rfl ?_
  cases hf
  exact J_iret X dX2_reached_71
theorem hd_X2_isThere : yX2_isThere.cls ≠ "java/lang/invoke/MethodHandle" ∧ yX2_isThere.cls ≠ "java/lang/invoke/VarHandle" ∧ (parseMethodDescriptor yX2_isThere.desc).map (fun d => d.parameters.length) = some 1 := by decide +kernel
set_option maxHeartbeats 4000000 in
set_option maxRecDepth 100000 in
theorem c_X2_isThere (l : Launch) (o : Om) (emb : Hp → va_W) (A : Nat → Prop) (hA : ∀ h : Hp, va_D A (emb h)) (a : Nat) (hO : isX2 o emb a) (x1 : Int32) (h : Hp) (r : Int32) (hf : f_X2_isThere a x1 h = some r) : Ct l o emb A yX2_isThere cX2_isThere 2 (some .boolean) 1 21 [.ref (o.1 a), .int x1] h (some (.int r)) h := by
  refine Ct.of RX2 rfl (by decide +kernel) hA (Nat.le_of_ble_eq_true rfl) (fun p e s m args below meth c X => ?_)
  refine J_sub (lo' := [(0, .ref (o.1 a)), (1, .int x1)]) [0, 1] rfl ?_
  rw [f_X2_isThere] at hf
  refine J_iload_n X 1 dX2_isThere_0 rfl rfl ?_
  obtain ⟨v1, qv1, hf⟩ := ob hf
  refine J_callSN X (rest := []) (rs := [.int v1]) (c_X5_isWalker l o emb A hA x1 h v1 qv1) nw_253 wd_236 wd_34 wd_237 hd_X5_isWalker ⟨Nat.le_of_ble_eq_true rfl, Nat.le_of_ble_eq_true rfl⟩ ⟨Nat.zero_le _, Nat.zero_le _⟩ (Nat.le_of_ble_eq_true rfl) dX2_isThere_1 rfl rfl ?_
  refine J_if_eq (tgt := 23) X dX2_isThere_4 (by decide) (fun c4 => ?_) (fun c4 => ?_)
  · rw [if_pos c4] at hf
    refine J_const X (0 : Int32) dX2_isThere_23 (by decide) ?_
    cases hf
    exact J_zret X rfl dX2_isThere_24
  · rw [if_neg c4] at hf
    refine J_aload_n X 0 dX2_isThere_7 rfl rfl ?_
    refine J_get X hO.1 inX2 rfl 1 (Nat.le_of_ble_eq_true rfl) wd_62 rfl (v := .ref (o.1 (a + 2))) rfl dX2_isThere_8 ?_
    refine J_iload_n X 1 dX2_isThere_11 rfl rfl ?_
    obtain ⟨v2, qv2, hf⟩ := ob hf
    refine J_callSN X (rest := []) (rs := [.int v2]) (c_X5_at l o emb A hA (a + 2) 6 hO.2.2.1 x1 h v2 qv2) nw_254 wd_255 wd_34 wd_256 hd_X5_at ⟨Nat.le_of_ble_eq_true rfl, Nat.le_of_ble_eq_true rfl⟩ ⟨Nat.zero_le _, Nat.zero_le _⟩ (Nat.le_of_ble_eq_true rfl) dX2_isThere_12 rfl rfl ?_
    refine J_const X (-1 : Int32) dX2_isThere_15 (by decide) ?_
    refine J_icmp_eq (tgt := 23) X dX2_isThere_16 (by decide) (fun c16 => ?_) (fun c16 => ?_)
    · rw [if_pos c16] at hf
      refine J_const X (0 : Int32) dX2_isThere_23 (by decide) ?_
      cases hf
      exact J_zret X rfl dX2_isThere_24
    · rw [if_neg c16] at hf
      refine J_const X (1 : Int32) dX2_isThere_19 (by decide) ?_
      refine J_goto (tgt := 24) X dX2_isThere_20 (by decide) ?_
      cases hf
      exact J_zret X rfl dX2_isThere_24
theorem hd_X2_placeOf : yX2_placeOf.cls ≠ "java/lang/invoke/MethodHandle" ∧ yX2_placeOf.cls ≠ "java/lang/invoke/VarHandle" ∧ (parseMethodDescriptor yX2_placeOf.desc).map (fun d => d.parameters.length) = some 1 := by decide +kernel
set_option maxHeartbeats 4000000 in
set_option maxRecDepth 100000 in
theorem c_X2_placeOf (l : Launch) (o : Om) (emb : Hp → va_W) (A : Nat → Prop) (hA : ∀ h : Hp, va_D A (emb h)) (a : Nat) (hO : isX2 o emb a) (x1 : Int32) (h : Hp) (r : Int32) (hf : f_X2_placeOf a x1 h = some r) : Ct l o emb A yX2_placeOf cX2_placeOf 2 (some .int) 1 21 [.ref (o.1 a), .int x1] h (some (.int r)) h := by
  refine Ct.of RX2 rfl (by decide +kernel) hA (Nat.le_of_ble_eq_true rfl) (fun p e s m args below meth c X => ?_)
  refine J_sub (lo' := [(0, .ref (o.1 a)), (1, .int x1)]) [0, 1] rfl ?_
  rw [f_X2_placeOf] at hf
  refine J_aload_n X 0 dX2_placeOf_0 rfl rfl ?_
  refine J_get X hO.1 inX2 rfl 1 (Nat.le_of_ble_eq_true rfl) wd_62 rfl (v := .ref (o.1 (a + 2))) rfl dX2_placeOf_1 ?_
  refine J_iload_n X 1 dX2_placeOf_4 rfl rfl ?_
  obtain ⟨v1, qv1, hf⟩ := ob hf
  refine J_callSN X (rest := []) (rs := [.int v1]) (c_X5_at l o emb A hA (a + 2) 6 hO.2.2.1 x1 h v1 qv1) nw_254 wd_255 wd_34 wd_256 hd_X5_at ⟨Nat.le_of_ble_eq_true rfl, Nat.le_of_ble_eq_true rfl⟩ ⟨Nat.zero_le _, Nat.zero_le _⟩ (Nat.le_of_ble_eq_true rfl) dX2_placeOf_5 rfl rfl ?_
  cases hf
  exact J_iret X dX2_placeOf_8
theorem hd_X2_ironOf : yX2_ironOf.cls ≠ "java/lang/invoke/MethodHandle" ∧ yX2_ironOf.cls ≠ "java/lang/invoke/VarHandle" ∧ (parseMethodDescriptor yX2_ironOf.desc).map (fun d => d.parameters.length) = some 1 := by decide +kernel
set_option maxHeartbeats 4000000 in
set_option maxRecDepth 100000 in
theorem c_X2_ironOf (l : Launch) (o : Om) (emb : Hp → va_W) (A : Nat → Prop) (hA : ∀ h : Hp, va_D A (emb h)) (a : Nat) (hO : isX2 o emb a) (x1 : Int32) (h : Hp) (r : Int32) (hf : f_X2_ironOf a x1 h = some r) : Ct l o emb A yX2_ironOf cX2_ironOf 2 (some .int) 1 21 [.ref (o.1 a), .int x1] h (some (.int r)) h := by
  refine Ct.of RX2 rfl (by decide +kernel) hA (Nat.le_of_ble_eq_true rfl) (fun p e s m args below meth c X => ?_)
  refine J_sub (lo' := [(0, .ref (o.1 a)), (1, .int x1)]) [0, 1] rfl ?_
  rw [f_X2_ironOf] at hf
  refine J_aload_n X 0 dX2_ironOf_0 rfl rfl ?_
  refine J_get X hO.1 inX2 rfl 2 (Nat.le_of_ble_eq_true rfl) wd_63 rfl (v := .ref (o.1 (a + 3))) rfl dX2_ironOf_1 ?_
  refine J_iload_n X 1 dX2_ironOf_4 rfl rfl ?_
  obtain ⟨v1, qv1, hf⟩ := ob hf
  refine J_callSN X (rest := []) (rs := [.int v1]) (c_X5_at l o emb A hA (a + 3) 6 hO.2.2.2 x1 h v1 qv1) nw_254 wd_255 wd_34 wd_256 hd_X5_at ⟨Nat.le_of_ble_eq_true rfl, Nat.le_of_ble_eq_true rfl⟩ ⟨Nat.zero_le _, Nat.zero_le _⟩ (Nat.le_of_ble_eq_true rfl) dX2_ironOf_5 rfl rfl ?_
  cases hf
  exact J_iret X dX2_ironOf_8
theorem hd_X2_putWalker : yX2_putWalker.cls ≠ "java/lang/invoke/MethodHandle" ∧ yX2_putWalker.cls ≠ "java/lang/invoke/VarHandle" ∧ (parseMethodDescriptor yX2_putWalker.desc).map (fun d => d.parameters.length) = some 3 := by decide +kernel
set_option maxHeartbeats 4000000 in
set_option maxRecDepth 100000 in
theorem c_X2_putWalker (l : Launch) (o : Om) (emb : Hp → va_W) (A : Nat → Prop) (hA : ∀ h : Hp, va_D A (emb h)) (a : Nat) (hO : isX2 o emb a) (x1 : Int32) (x2 : Int32) (x3 : Int32) (h : Hp)  (h' : Hp) (hf : f_X2_putWalker a x1 x2 x3 h = some h') : Ct l o emb A yX2_putWalker cX2_putWalker 4 none 1 22 [.ref (o.1 a), .int x1, .int x2, .int x3] h none h' := by
  refine Ct.of RX2 rfl (by decide +kernel) hA (Nat.le_of_ble_eq_true rfl) (fun p e s m args below meth c X => ?_)
  refine J_sub (lo' := [(0, .ref (o.1 a)), (1, .int x1), (2, .int x2), (3, .int x3)]) [0, 1, 2, 3] rfl ?_
  rw [f_X2_putWalker] at hf
  refine J_aload_n X 0 dX2_putWalker_0 rfl rfl ?_
  refine J_get X hO.1 inX2 rfl 1 (Nat.le_of_ble_eq_true rfl) wd_62 rfl (v := .ref (o.1 (a + 2))) rfl dX2_putWalker_1 ?_
  refine J_iload_n X 1 dX2_putWalker_4 rfl rfl ?_
  refine J_iload_n X 2 dX2_putWalker_5 rfl rfl ?_
  obtain ⟨h1, qh1, hf⟩ := ob hf
  refine J_callSN X (rest := []) (rs := []) (c_X5_put l o emb A hA (a + 2) 6 hO.2.2.1 x1 x2 h h1 qh1) nw_224 wd_225 wd_34 wd_226 hd_X5_put ⟨Nat.le_of_ble_eq_true rfl, Nat.le_of_ble_eq_true rfl⟩ ⟨Nat.zero_le _, Nat.zero_le _⟩ (Nat.le_of_ble_eq_true rfl) dX2_putWalker_6 rfl rfl ?_
  refine J_aload_n X 0 dX2_putWalker_9 rfl rfl ?_
  refine J_get X hO.1 inX2 rfl 2 (Nat.le_of_ble_eq_true rfl) wd_63 rfl (v := .ref (o.1 (a + 3))) rfl dX2_putWalker_10 ?_
  refine J_iload_n X 1 dX2_putWalker_13 rfl rfl ?_
  refine J_iload_n X 3 dX2_putWalker_14 rfl rfl ?_
  refine J_if_eq (tgt := 22) X dX2_putWalker_15 (by decide) (fun c15 => ?_) (fun c15 => ?_)
  · rw [if_pos c15] at hf
    refine J_const X (0 : Int32) dX2_putWalker_22 (by decide) ?_
    obtain ⟨h2, qh2, hf⟩ := ob hf
    refine J_callSN X (rest := []) (rs := []) (c_X5_put l o emb A hA (a + 3) 6 hO.2.2.2 x1 (0 : Int32) h1 h2 qh2) nw_224 wd_225 wd_34 wd_226 hd_X5_put ⟨Nat.le_of_ble_eq_true rfl, Nat.le_of_ble_eq_true rfl⟩ ⟨Nat.zero_le _, Nat.zero_le _⟩ (Nat.le_of_ble_eq_true rfl) dX2_putWalker_23 rfl rfl ?_
    cases hf
    exact J_vret X dX2_putWalker_26
  · rw [if_neg c15] at hf
    refine J_const X (1 : Int32) dX2_putWalker_18 (by decide) ?_
    refine J_goto (tgt := 23) X dX2_putWalker_19 (by decide) ?_
    obtain ⟨h3, qh3, hf⟩ := ob hf
    refine J_callSN X (rest := []) (rs := []) (c_X5_put l o emb A hA (a + 3) 6 hO.2.2.2 x1 (1 : Int32) h1 h3 qh3) nw_224 wd_225 wd_34 wd_226 hd_X5_put ⟨Nat.le_of_ble_eq_true rfl, Nat.le_of_ble_eq_true rfl⟩ ⟨Nat.zero_le _, Nat.zero_le _⟩ (Nat.le_of_ble_eq_true rfl) dX2_putWalker_23 rfl rfl ?_
    cases hf
    exact J_vret X dX2_putWalker_26
theorem hd_X2_walkersThere : yX2_walkersThere.cls ≠ "java/lang/invoke/MethodHandle" ∧ yX2_walkersThere.cls ≠ "java/lang/invoke/VarHandle" ∧ (parseMethodDescriptor yX2_walkersThere.desc).map (fun d => d.parameters.length) = some 0 := by decide +kernel
set_option maxHeartbeats 4000000 in
set_option maxRecDepth 100000 in
theorem cf_X2_walkersThere_l4 {R : Type} (hA : ∀ h : Hp, va_D A (emb h)) (X : Cx p s m args meth c RX2 cX2_walkersThere 3 (some .int) o) (a : Nat) (hO : isX2 o emb a)  (h : Hp) {kx : Int32 → Int32 → Option R} (t : R) : ∀ (n : Nat) (s1 : Int32) (s2 : Int32), f_X2_walkersThere_l4 a h kx n s1 s2 = some t → (∀ (s1 : Int32) (s2 : Int32), kx s1 s2 = some t → J p l e (rmf 2 42) s m args below meth c 0 0 Z o emb A H0 3 30 [(1, .int s1)] [] h) → J p l e (rmf 2 42) s m args below meth c 0 0 Z o emb A H0 3 4 [(0, .ref (o.1 a)), (1, .int s1), (2, .int s2)] [] h := by
  intro n
  induction n with
  | zero =>
    intro s1 s2 hf hk
    cases hf
  | succ n ih =>
    intro s1 s2 hf hk
    rw [f_X2_walkersThere_l4] at hf
    refine J_iload_n X 2 dX2_walkersThere_4 rfl rfl ?_
    refine J_bipush X (6 : Int32) dX2_walkersThere_5 (by decide) ?_
    refine J_icmp_ge (tgt := 30) X dX2_walkersThere_7 (by decide) (fun c7 => ?_) (fun c7 => ?_)
    · rw [if_pos c7] at hf
      exact J_sub [1] rfl (hk s1 s2 hf)
    · rw [if_neg c7] at hf
      refine J_aload_n X 0 dX2_walkersThere_10 rfl rfl ?_
      refine J_iload_n X 2 dX2_walkersThere_11 rfl rfl ?_
      obtain ⟨v1, qv1, hf⟩ := ob hf
      refine J_callV X (rest := []) (rs := [.int v1]) (c_X2_isThere l o emb A hA a hO s2 h v1 qv1) hO.1 rfl rfl wd_249 wd_250 wd_251 wd_35 wd_252 hd_X2_isThere ⟨Nat.le_of_ble_eq_true rfl, Nat.le_of_ble_eq_true rfl⟩ ⟨Nat.zero_le _, Nat.zero_le _⟩ (Nat.le_of_ble_eq_true rfl) dX2_walkersThere_12 rfl rfl ?_
      refine J_if_eq (tgt := 24) X dX2_walkersThere_15 (by decide) (fun c15 => ?_) (fun c15 => ?_)
      · rw [if_pos c15] at hf
        obtain ⟨v2, qv2, hf⟩ := ob hf
        refine J_iinc X 2 [(2, .int v2), (0, .ref (o.1 a)), (1, .int s1)] dX2_walkersThere_24 rfl (Option.some.inj qv2) (Nat.le_of_ble_eq_true rfl) rfl ?_
        refine J_goto (tgt := 4) X dX2_walkersThere_27 (by decide) ?_
        exact J_sub [1, 2, 0] rfl (ih s1 v2 hf hk)
      · rw [if_neg c15] at hf
        refine J_iload_n X 1 dX2_walkersThere_18 rfl rfl ?_
        refine J_const X (1 : Int32) dX2_walkersThere_19 (by decide) ?_
        refine J_iload_n X 2 dX2_walkersThere_20 rfl rfl ?_
        refine J_ishl X dX2_walkersThere_21 ?_
        refine J_ior X dX2_walkersThere_22 ?_
        obtain ⟨v3, qv3, hf⟩ := ob hf
        refine J_topi v3 (Option.some.inj qv3) ?_
        refine J_istore_n X [(1, .int v3), (0, .ref (o.1 a)), (2, .int s2)] dX2_walkersThere_23 rfl (Nat.le_of_ble_eq_true rfl) rfl ?_
        obtain ⟨v4, qv4, hf⟩ := ob hf
        refine J_iinc X 2 [(2, .int v4), (1, .int v3), (0, .ref (o.1 a))] dX2_walkersThere_24 rfl (Option.some.inj qv4) (Nat.le_of_ble_eq_true rfl) rfl ?_
        refine J_goto (tgt := 4) X dX2_walkersThere_27 (by decide) ?_
        exact J_sub [2, 1, 0] rfl (ih v3 v4 hf hk)
set_option maxHeartbeats 4000000 in
set_option maxRecDepth 100000 in
theorem c_X2_walkersThere (l : Launch) (o : Om) (emb : Hp → va_W) (A : Nat → Prop) (hA : ∀ h : Hp, va_D A (emb h)) (a : Nat) (hO : isX2 o emb a) (h : Hp) (r : Int32) (hf : f_X2_walkersThere a h = some r) : Ct l o emb A yX2_walkersThere cX2_walkersThere 3 (some .int) 2 42 [.ref (o.1 a)] h (some (.int r)) h := by
  refine Ct.of RX2 rfl (by decide +kernel) hA (Nat.le_of_ble_eq_true rfl) (fun p e s m args below meth c X => ?_)
  refine J_sub (lo' := [(0, .ref (o.1 a))]) [0] rfl ?_
  rw [f_X2_walkersThere] at hf
  refine J_const X (0 : Int32) dX2_walkersThere_0 (by decide) ?_
  refine J_istore_n X [(1, .int (0 : Int32)), (0, .ref (o.1 a))] dX2_walkersThere_1 rfl (Nat.le_of_ble_eq_true rfl) rfl ?_
  refine J_const X (0 : Int32) dX2_walkersThere_2 (by decide) ?_
  refine J_istore_n X [(2, .int (0 : Int32)), (1, .int (0 : Int32)), (0, .ref (o.1 a))] dX2_walkersThere_3 rfl (Nat.le_of_ble_eq_true rfl) rfl ?_
  refine J_sub (lo' := [(0, .ref (o.1 a)), (1, .int (0 : Int32)), (2, .int (0 : Int32))]) [2, 1, 0] rfl ?_
  refine cf_X2_walkersThere_l4 hA X a hO  h _ _ (0 : Int32) (0 : Int32) hf (fun w5 w6 hf => ?_)
  refine J_iload_n X 0 dX2_walkersThere_30 rfl rfl ?_
  cases hf
  exact J_iret X dX2_walkersThere_31
theorem hd_X2_shutIn : yX2_shutIn.cls ≠ "java/lang/invoke/MethodHandle" ∧ yX2_shutIn.cls ≠ "java/lang/invoke/VarHandle" ∧ (parseMethodDescriptor yX2_shutIn.desc).map (fun d => d.parameters.length) = some 0 := by decide +kernel
set_option maxHeartbeats 4000000 in
set_option maxRecDepth 100000 in
theorem cf_X2_shutIn_l4 {R : Type} (hA : ∀ h : Hp, va_D A (emb h)) (X : Cx p s m args meth c RX2 cX2_shutIn 3 (some .int) o) (a : Nat) (hO : isX2 o emb a)  (h : Hp) {kx : Int32 → Int32 → Option R} (t : R) : ∀ (n : Nat) (s1 : Int32) (s2 : Int32), f_X2_shutIn_l4 a h kx n s1 s2 = some t → (∀ (s1 : Int32) (s2 : Int32), kx s1 s2 = some t → J p l e (rmf 4 88) s m args below meth c 0 0 Z o emb A H0 3 42 [(1, .int s1)] [] h) → J p l e (rmf 4 88) s m args below meth c 0 0 Z o emb A H0 3 4 [(0, .ref (o.1 a)), (1, .int s1), (2, .int s2)] [] h := by
  intro n
  induction n with
  | zero =>
    intro s1 s2 hf hk
    cases hf
  | succ n ih =>
    intro s1 s2 hf hk
    rw [f_X2_shutIn_l4] at hf
    refine J_iload_n X 2 dX2_shutIn_4 rfl rfl ?_
    refine J_bipush X (6 : Int32) dX2_shutIn_5 (by decide) ?_
    refine J_icmp_ge (tgt := 42) X dX2_shutIn_7 (by decide) (fun c7 => ?_) (fun c7 => ?_)
    · rw [if_pos c7] at hf
      exact J_sub [1] rfl (hk s1 s2 hf)
    · rw [if_neg c7] at hf
      refine J_aload_n X 0 dX2_shutIn_10 rfl rfl ?_
      refine J_iload_n X 2 dX2_shutIn_11 rfl rfl ?_
      obtain ⟨v1, qv1, hf⟩ := ob hf
      refine J_callV X (rest := []) (rs := [.int v1]) (c_X2_isThere l o emb A hA a hO s2 h v1 qv1) hO.1 rfl rfl wd_249 wd_250 wd_251 wd_35 wd_252 hd_X2_isThere ⟨Nat.le_of_ble_eq_true rfl, Nat.le_of_ble_eq_true rfl⟩ ⟨Nat.zero_le _, Nat.zero_le _⟩ (Nat.le_of_ble_eq_true rfl) dX2_shutIn_12 rfl rfl ?_
      refine J_if_eq (tgt := 36) X dX2_shutIn_15 (by decide) (fun c15 => ?_) (fun c15 => ?_)
      · rw [if_pos c15] at hf
        obtain ⟨v2, qv2, hf⟩ := ob hf
        refine J_iinc X 2 [(2, .int v2), (0, .ref (o.1 a)), (1, .int s1)] dX2_shutIn_36 rfl (Option.some.inj qv2) (Nat.le_of_ble_eq_true rfl) rfl ?_
        refine J_goto (tgt := 4) X dX2_shutIn_39 (by decide) ?_
        exact J_sub [1, 2, 0] rfl (ih s1 v2 hf hk)
      · rw [if_neg c15] at hf
        refine J_aload_n X 0 dX2_shutIn_18 rfl rfl ?_
        refine J_aload_n X 0 dX2_shutIn_19 rfl rfl ?_
        refine J_iload_n X 2 dX2_shutIn_20 rfl rfl ?_
        obtain ⟨v3, qv3, hf⟩ := ob hf
        refine J_callV X (rest := [.ref (o.1 a)]) (rs := [.int v3, .ref (o.1 a)]) (c_X2_placeOf l o emb A hA a hO s2 h v3 qv3) hO.1 rfl rfl wd_370 wd_371 wd_372 wd_35 wd_373 hd_X2_placeOf ⟨Nat.le_of_ble_eq_true rfl, Nat.le_of_ble_eq_true rfl⟩ ⟨Nat.zero_le _, Nat.zero_le _⟩ (Nat.le_of_ble_eq_true rfl) dX2_shutIn_21 rfl rfl ?_
        obtain ⟨v4, qv4, hf⟩ := ob hf
        refine J_callV X (rest := []) (rs := [.int v4]) (c_X2_openFrom l o emb A hA a hO v3 h v4 qv4) hO.1 rfl rfl wd_410 wd_411 wd_412 wd_35 wd_413 hd_X2_openFrom ⟨Nat.le_of_ble_eq_true rfl, Nat.le_of_ble_eq_true rfl⟩ ⟨Nat.zero_le _, Nat.zero_le _⟩ (Nat.le_of_ble_eq_true rfl) dX2_shutIn_24 rfl rfl ?_
        refine J_if_ne (tgt := 36) X dX2_shutIn_27 (by decide) (fun c27 => ?_) (fun c27 => ?_)
        · rw [if_neg c27] at hf
          obtain ⟨v5, qv5, hf⟩ := ob hf
          refine J_iinc X 2 [(2, .int v5), (0, .ref (o.1 a)), (1, .int s1)] dX2_shutIn_36 rfl (Option.some.inj qv5) (Nat.le_of_ble_eq_true rfl) rfl ?_
          refine J_goto (tgt := 4) X dX2_shutIn_39 (by decide) ?_
          exact J_sub [1, 2, 0] rfl (ih s1 v5 hf hk)
        · rw [if_pos c27] at hf
          refine J_iload_n X 1 dX2_shutIn_30 rfl rfl ?_
          refine J_const X (1 : Int32) dX2_shutIn_31 (by decide) ?_
          refine J_iload_n X 2 dX2_shutIn_32 rfl rfl ?_
          refine J_ishl X dX2_shutIn_33 ?_
          refine J_ior X dX2_shutIn_34 ?_
          obtain ⟨v6, qv6, hf⟩ := ob hf
          refine J_topi v6 (Option.some.inj qv6) ?_
          refine J_istore_n X [(1, .int v6), (0, .ref (o.1 a)), (2, .int s2)] dX2_shutIn_35 rfl (Nat.le_of_ble_eq_true rfl) rfl ?_
          obtain ⟨v7, qv7, hf⟩ := ob hf
          refine J_iinc X 2 [(2, .int v7), (1, .int v6), (0, .ref (o.1 a))] dX2_shutIn_36 rfl (Option.some.inj qv7) (Nat.le_of_ble_eq_true rfl) rfl ?_
          refine J_goto (tgt := 4) X dX2_shutIn_39 (by decide) ?_
          exact J_sub [2, 1, 0] rfl (ih v6 v7 hf hk)
set_option maxHeartbeats 4000000 in
set_option maxRecDepth 100000 in
theorem c_X2_shutIn (l : Launch) (o : Om) (emb : Hp → va_W) (A : Nat → Prop) (hA : ∀ h : Hp, va_D A (emb h)) (a : Nat) (hO : isX2 o emb a) (h : Hp) (r : Int32) (hf : f_X2_shutIn a h = some r) : Ct l o emb A yX2_shutIn cX2_shutIn 3 (some .int) 4 88 [.ref (o.1 a)] h (some (.int r)) h := by
  refine Ct.of RX2 rfl (by decide +kernel) hA (Nat.le_of_ble_eq_true rfl) (fun p e s m args below meth c X => ?_)
  refine J_sub (lo' := [(0, .ref (o.1 a))]) [0] rfl ?_
  rw [f_X2_shutIn] at hf
  refine J_const X (0 : Int32) dX2_shutIn_0 (by decide) ?_
  refine J_istore_n X [(1, .int (0 : Int32)), (0, .ref (o.1 a))] dX2_shutIn_1 rfl (Nat.le_of_ble_eq_true rfl) rfl ?_
  refine J_const X (0 : Int32) dX2_shutIn_2 (by decide) ?_
  refine J_istore_n X [(2, .int (0 : Int32)), (1, .int (0 : Int32)), (0, .ref (o.1 a))] dX2_shutIn_3 rfl (Nat.le_of_ble_eq_true rfl) rfl ?_
  refine J_sub (lo' := [(0, .ref (o.1 a)), (1, .int (0 : Int32)), (2, .int (0 : Int32))]) [2, 1, 0] rfl ?_
  refine cf_X2_shutIn_l4 hA X a hO  h _ _ (0 : Int32) (0 : Int32) hf (fun w8 w9 hf => ?_)
  refine J_iload_n X 0 dX2_shutIn_42 rfl rfl ?_
  cases hf
  exact J_iret X dX2_shutIn_43
theorem hd_X2_walk : yX2_walk.cls ≠ "java/lang/invoke/MethodHandle" ∧ yX2_walk.cls ≠ "java/lang/invoke/VarHandle" ∧ (parseMethodDescriptor yX2_walk.desc).map (fun d => d.parameters.length) = some 2 := by decide +kernel
set_option maxHeartbeats 4000000 in
set_option maxRecDepth 100000 in
theorem c_X2_walk (l : Launch) (o : Om) (emb : Hp → va_W) (A : Nat → Prop) (hA : ∀ h : Hp, va_D A (emb h)) (a : Nat) (hO : isX2 o emb a) (x1 : Int32) (x2 : Int32) (h : Hp) (r : Int32) (h' : Hp) (hf : f_X2_walk a x1 x2 h = some (r, h')) : Ct l o emb A yX2_walk cX2_walk 6 (some .int) 2 45 [.ref (o.1 a), .int x1, .int x2] h (some (.int r)) h' := by
  refine Ct.of RX2 rfl (by decide +kernel) hA (Nat.le_of_ble_eq_true rfl) (fun p e s m args below meth c X => ?_)
  refine J_sub (lo' := [(0, .ref (o.1 a)), (1, .int x1), (2, .int x2)]) [0, 1, 2] rfl ?_
  rw [f_X2_walk] at hf
  refine J_aload_n X 0 dX2_walk_0 rfl rfl ?_
  refine J_iload_n X 1 dX2_walk_1 rfl rfl ?_
  obtain ⟨v1, qv1, hf⟩ := ob hf
  refine J_callV X (rest := []) (rs := [.int v1]) (c_X2_isThere l o emb A hA a hO x1 h v1 qv1) hO.1 rfl rfl wd_249 wd_250 wd_251 wd_35 wd_252 hd_X2_isThere ⟨Nat.le_of_ble_eq_true rfl, Nat.le_of_ble_eq_true rfl⟩ ⟨Nat.zero_le _, Nat.zero_le _⟩ (Nat.le_of_ble_eq_true rfl) dX2_walk_2 rfl rfl ?_
  refine J_if_ne (tgt := 10) X dX2_walk_5 (by decide) (fun c5 => ?_) (fun c5 => ?_)
  · rw [if_neg c5] at hf
    refine J_aload_n X 0 dX2_walk_10 rfl rfl ?_
    refine J_iload_n X 1 dX2_walk_11 rfl rfl ?_
    obtain ⟨v2, qv2, hf⟩ := ob hf
    refine J_callV X (rest := []) (rs := [.int v2]) (c_X2_placeOf l o emb A hA a hO x1 h v2 qv2) hO.1 rfl rfl wd_370 wd_371 wd_372 wd_35 wd_373 hd_X2_placeOf ⟨Nat.le_of_ble_eq_true rfl, Nat.le_of_ble_eq_true rfl⟩ ⟨Nat.zero_le _, Nat.zero_le _⟩ (Nat.le_of_ble_eq_true rfl) dX2_walk_12 rfl rfl ?_
    refine J_istore_n X [(3, .int v2), (0, .ref (o.1 a)), (1, .int x1), (2, .int x2)] dX2_walk_15 rfl (Nat.le_of_ble_eq_true rfl) rfl ?_
    refine J_iload_n X 0 dX2_walk_16 rfl rfl ?_
    refine J_iload_n X 3 dX2_walk_17 rfl rfl ?_
    refine J_icmp_ne (tgt := 23) X dX2_walk_18 (by decide) (fun c18 => ?_) (fun c18 => ?_)
    · rw [if_neg c18] at hf
      refine J_aload_n X 1 dX2_walk_23 rfl rfl ?_
      refine J_iload_n X 0 dX2_walk_24 rfl rfl ?_
      refine J_iload_n X 3 dX2_walk_25 rfl rfl ?_
      obtain ⟨v3, qv3, hf⟩ := ob hf
      refine J_callV X (rest := []) (rs := [.int v3]) (c_X2_roadBetween l o emb A hA a hO v2 x2 h v3 qv3) hO.1 rfl rfl wd_340 wd_341 wd_342 wd_35 wd_343 hd_X2_roadBetween ⟨Nat.le_of_ble_eq_true rfl, Nat.le_of_ble_eq_true rfl⟩ ⟨Nat.zero_le _, Nat.zero_le _⟩ (Nat.le_of_ble_eq_true rfl) dX2_walk_26 rfl rfl ?_
      refine J_istore X [(4, .int v3), (3, .int v2), (0, .ref (o.1 a)), (1, .int x1), (2, .int x2)] dX2_walk_29 (Nat.le_of_ble_eq_true rfl) rfl ?_
      refine J_iload X 0 dX2_walk_31 rfl ?_
      refine J_bipush X (-6 : Int32) dX2_walk_33 (by decide) ?_
      refine J_icmp_ne (tgt := 40) X dX2_walk_35 (by decide) (fun c35 => ?_) (fun c35 => ?_)
      · rw [if_neg c35] at hf
        refine J_iload X 0 dX2_walk_40 rfl ?_
        refine J_bipush X (100 : Int32) dX2_walk_42 (by decide) ?_
        refine J_icmp_lt (tgt := 49) X dX2_walk_44 (by decide) (fun c44 => ?_) (fun c44 => ?_)
        · rw [if_pos c44] at hf
          refine J_iload X 0 dX2_walk_49 rfl ?_
          refine J_bipush X (9 : Int32) dX2_walk_51 (by decide) ?_
          refine J_icmp_lt (tgt := 58) X dX2_walk_53 (by decide) (fun c53 => ?_) (fun c53 => ?_)
          · rw [if_pos c53] at hf
            refine J_bipush X (9 : Int32) dX2_walk_58 (by decide) ?_
            refine J_iload X 0 dX2_walk_60 rfl ?_
            refine J_const X (1 : Int32) dX2_walk_62 (by decide) ?_
            refine J_iadd X dX2_walk_63 ?_
            refine J_aload_n X 2 dX2_walk_64 rfl rfl ?_
            refine J_iload_n X 3 dX2_walk_65 rfl rfl ?_
            obtain ⟨v4, qv4, hf⟩ := ob hf
            refine J_callV X (rest := [.int (v3 + (1 : Int32)), .int (9 : Int32)]) (rs := [.int v4, .int (v3 + (1 : Int32)), .int (9 : Int32)]) (c_X2_ironOf l o emb A hA a hO x1 h v4 qv4) hO.1 rfl rfl wd_362 wd_363 wd_364 wd_35 wd_365 hd_X2_ironOf ⟨Nat.le_of_ble_eq_true rfl, Nat.le_of_ble_eq_true rfl⟩ ⟨Nat.zero_le _, Nat.zero_le _⟩ (Nat.le_of_ble_eq_true rfl) dX2_walk_66 rfl rfl ?_
            refine J_iadd X dX2_walk_69 ?_
            refine J_mmin X wd_374 wd_353 wd_43 wd_354 ⟨Nat.le_of_ble_eq_true rfl, Nat.le_of_ble_eq_true rfl, Nat.zero_le _, Nat.zero_le _⟩ dX2_walk_70 ?_
            obtain ⟨v5, qv5, hf⟩ := ob hf
            refine J_topi v5 (Option.some.inj qv5) ?_
            refine J_istore X [(5, .int v5), (4, .int v3), (3, .int v2), (0, .ref (o.1 a)), (1, .int x1), (2, .int x2)] dX2_walk_73 (Nat.le_of_ble_eq_true rfl) rfl ?_
            refine J_aload_n X 3 dX2_walk_75 rfl rfl ?_
            refine J_iload_n X 2 dX2_walk_76 rfl rfl ?_
            refine J_iload_n X 5 dX2_walk_77 rfl rfl ?_
            refine J_iload X 0 dX2_walk_78 rfl ?_
            obtain ⟨h6, qh6, hf⟩ := ob hf
            refine J_callV X (rest := []) (rs := []) (c_X2_putRoad l o emb A hA a hO v2 x2 v5 h h6 qh6) hO.1 rfl rfl wd_344 wd_220 wd_221 wd_35 wd_222 hd_X2_putRoad ⟨Nat.le_of_ble_eq_true rfl, Nat.le_of_ble_eq_true rfl⟩ ⟨Nat.zero_le _, Nat.zero_le _⟩ (Nat.le_of_ble_eq_true rfl) dX2_walk_80 rfl rfl ?_
            refine J_aload_n X 3 dX2_walk_83 rfl rfl ?_
            refine J_get X hO.1 inX2 rfl 1 (Nat.le_of_ble_eq_true rfl) wd_62 rfl (v := .ref (o.1 (a + 2))) rfl dX2_walk_84 ?_
            refine J_iload_n X 4 dX2_walk_87 rfl rfl ?_
            refine J_iload_n X 5 dX2_walk_88 rfl rfl ?_
            obtain ⟨h7, qh7, hf⟩ := ob hf
            refine J_callSN X (rest := []) (rs := []) (c_X5_put l o emb A hA (a + 2) 6 hO.2.2.1 x1 x2 h6 h7 qh7) nw_224 wd_225 wd_34 wd_226 hd_X5_put ⟨Nat.le_of_ble_eq_true rfl, Nat.le_of_ble_eq_true rfl⟩ ⟨Nat.zero_le _, Nat.zero_le _⟩ (Nat.le_of_ble_eq_true rfl) dX2_walk_89 rfl rfl ?_
            refine J_iload X 0 dX2_walk_92 rfl ?_
            refine J_bipush X (9 : Int32) dX2_walk_94 (by decide) ?_
            refine J_icmp_ne (tgt := 117) X dX2_walk_96 (by decide) (fun c96 => ?_) (fun c96 => ?_)
            · rw [if_neg c96] at hf
              refine J_const X (0 : Int32) dX2_walk_117 (by decide) ?_
              cases hf
              exact J_iret X dX2_walk_118
            · rw [if_pos c96] at hf
              refine J_aload_n X 3 dX2_walk_99 rfl rfl ?_
              refine J_get X hO.1 inX2 rfl 4 (Nat.le_of_ble_eq_true rfl) wd_66 rfl (v := .int (h7.1 a 4)) rfl dX2_walk_100 ?_
              refine J_bipush X (-6 : Int32) dX2_walk_103 (by decide) ?_
              refine J_icmp_ne (tgt := 117) X dX2_walk_105 (by decide) (fun c105 => ?_) (fun c105 => ?_)
              · rw [if_neg c105] at hf
                refine J_const X (0 : Int32) dX2_walk_117 (by decide) ?_
                cases hf
                exact J_iret X dX2_walk_118
              · rw [if_pos c105] at hf
                refine J_aload_n X 3 dX2_walk_108 rfl rfl ?_
                refine J_iload_n X 2 dX2_walk_109 rfl rfl ?_
                refine J_iload_n X 5 dX2_walk_110 rfl rfl ?_
                obtain ⟨v8, qv8, hf⟩ := ob hf
                refine J_callSN X (rest := [.ref (o.1 a)]) (rs := [.int v8, .ref (o.1 a)]) (c_X5_nameOfRoad l o emb A hA v2 x2 h7 v8 qv8) nw_349 wd_350 wd_34 wd_351 hd_X5_nameOfRoad ⟨Nat.le_of_ble_eq_true rfl, Nat.le_of_ble_eq_true rfl⟩ ⟨Nat.zero_le _, Nat.zero_le _⟩ (Nat.le_of_ble_eq_true rfl) dX2_walk_111 rfl rfl ?_
                obtain ⟨h9, qh9, hf⟩ := ob hf
                refine J_put X hO.1 inX2 tyX2 tyX2_ok nmX2 rfl 4 (Nat.le_of_ble_eq_true rfl) (by decide) wd_66 rfl rfl (ty := .int) (by decide +kernel) rfl rfl (Nat.le_of_ble_eq_true rfl) dX2_walk_114 ?_
                refine J_hp h9 (Option.some.inj qh9) ?_
                refine J_const X (0 : Int32) dX2_walk_117 (by decide) ?_
                cases hf
                exact J_iret X dX2_walk_118
          · rw [if_neg c53] at hf
            refine J_const X (5 : Int32) dX2_walk_56 (by decide) ?_
            cases hf
            exact J_iret X dX2_walk_57
        · rw [if_neg c44] at hf
          refine J_const X (4 : Int32) dX2_walk_47 (by decide) ?_
          cases hf
          exact J_iret X dX2_walk_48
      · rw [if_pos c35] at hf
        refine J_const X (3 : Int32) dX2_walk_38 (by decide) ?_
        cases hf
        exact J_iret X dX2_walk_39
    · rw [if_pos c18] at hf
      refine J_const X (2 : Int32) dX2_walk_21 (by decide) ?_
      cases hf
      exact J_iret X dX2_walk_22
  · rw [if_pos c5] at hf
    refine J_const X (1 : Int32) dX2_walk_8 (by decide) ?_
    cases hf
    exact J_iret X dX2_walk_9
theorem hd_X2_changeIron : yX2_changeIron.cls ≠ "java/lang/invoke/MethodHandle" ∧ yX2_changeIron.cls ≠ "java/lang/invoke/VarHandle" ∧ (parseMethodDescriptor yX2_changeIron.desc).map (fun d => d.parameters.length) = some 1 := by decide +kernel
set_option maxHeartbeats 4000000 in
set_option maxRecDepth 100000 in
theorem c_X2_changeIron (l : Launch) (o : Om) (emb : Hp → va_W) (A : Nat → Prop) (hA : ∀ h : Hp, va_D A (emb h)) (a : Nat) (hO : isX2 o emb a) (x1 : Int32) (h : Hp) (r : Int32) (h' : Hp) (hf : f_X2_changeIron a x1 h = some (r, h')) : Ct l o emb A yX2_changeIron cX2_changeIron 2 (some .int) 2 42 [.ref (o.1 a), .int x1] h (some (.int r)) h' := by
  refine Ct.of RX2 rfl (by decide +kernel) hA (Nat.le_of_ble_eq_true rfl) (fun p e s m args below meth c X => ?_)
  refine J_sub (lo' := [(0, .ref (o.1 a)), (1, .int x1)]) [0, 1] rfl ?_
  rw [f_X2_changeIron] at hf
  refine J_aload_n X 0 dX2_changeIron_0 rfl rfl ?_
  refine J_iload_n X 1 dX2_changeIron_1 rfl rfl ?_
  obtain ⟨v1, qv1, hf⟩ := ob hf
  refine J_callV X (rest := []) (rs := [.int v1]) (c_X2_isThere l o emb A hA a hO x1 h v1 qv1) hO.1 rfl rfl wd_249 wd_250 wd_251 wd_35 wd_252 hd_X2_isThere ⟨Nat.le_of_ble_eq_true rfl, Nat.le_of_ble_eq_true rfl⟩ ⟨Nat.zero_le _, Nat.zero_le _⟩ (Nat.le_of_ble_eq_true rfl) dX2_changeIron_2 rfl rfl ?_
  refine J_if_ne (tgt := 10) X dX2_changeIron_5 (by decide) (fun c5 => ?_) (fun c5 => ?_)
  · rw [if_neg c5] at hf
    refine J_aload_n X 0 dX2_changeIron_10 rfl rfl ?_
    refine J_get X hO.1 inX2 rfl 2 (Nat.le_of_ble_eq_true rfl) wd_63 rfl (v := .ref (o.1 (a + 3))) rfl dX2_changeIron_11 ?_
    refine J_iload_n X 1 dX2_changeIron_14 rfl rfl ?_
    refine J_const X (1 : Int32) dX2_changeIron_15 (by decide) ?_
    refine J_aload_n X 0 dX2_changeIron_16 rfl rfl ?_
    refine J_iload_n X 1 dX2_changeIron_17 rfl rfl ?_
    obtain ⟨v2, qv2, hf⟩ := ob hf
    refine J_callV X (rest := [.int (1 : Int32), .int x1, .ref (o.1 (a + 3))]) (rs := [.int v2, .int (1 : Int32), .int x1, .ref (o.1 (a + 3))]) (c_X2_ironOf l o emb A hA a hO x1 h v2 qv2) hO.1 rfl rfl wd_362 wd_363 wd_364 wd_35 wd_365 hd_X2_ironOf ⟨Nat.le_of_ble_eq_true rfl, Nat.le_of_ble_eq_true rfl⟩ ⟨Nat.zero_le _, Nat.zero_le _⟩ (Nat.le_of_ble_eq_true rfl) dX2_changeIron_18 rfl rfl ?_
    refine J_isub X dX2_changeIron_21 ?_
    obtain ⟨h3, qh3, hf⟩ := ob hf
    refine J_callSN X (rest := []) (rs := []) (c_X5_put l o emb A hA (a + 3) 6 hO.2.2.2 x1 ((1 : Int32) - v2) h h3 qh3) nw_224 wd_225 wd_34 wd_226 hd_X5_put ⟨Nat.le_of_ble_eq_true rfl, Nat.le_of_ble_eq_true rfl⟩ ⟨Nat.zero_le _, Nat.zero_le _⟩ (Nat.le_of_ble_eq_true rfl) dX2_changeIron_22 rfl rfl ?_
    refine J_const X (0 : Int32) dX2_changeIron_25 (by decide) ?_
    cases hf
    exact J_iret X dX2_changeIron_26
  · rw [if_pos c5] at hf
    refine J_const X (1 : Int32) dX2_changeIron_8 (by decide) ?_
    cases hf
    exact J_iret X dX2_changeIron_9
theorem hd_X2_bringIn : yX2_bringIn.cls ≠ "java/lang/invoke/MethodHandle" ∧ yX2_bringIn.cls ≠ "java/lang/invoke/VarHandle" ∧ (parseMethodDescriptor yX2_bringIn.desc).map (fun d => d.parameters.length) = some 2 := by decide +kernel
set_option maxHeartbeats 4000000 in
set_option maxRecDepth 100000 in
theorem c_X2_bringIn (l : Launch) (o : Om) (emb : Hp → va_W) (A : Nat → Prop) (hA : ∀ h : Hp, va_D A (emb h)) (a : Nat) (hO : isX2 o emb a) (x1 : Int32) (x2 : Int32) (h : Hp) (r : Int32) (h' : Hp) (hf : f_X2_bringIn a x1 x2 h = some (r, h')) : Ct l o emb A yX2_bringIn cX2_bringIn 4 (some .int) 2 45 [.ref (o.1 a), .int x1, .int x2] h (some (.int r)) h' := by
  refine Ct.of RX2 rfl (by decide +kernel) hA (Nat.le_of_ble_eq_true rfl) (fun p e s m args below meth c X => ?_)
  refine J_sub (lo' := [(0, .ref (o.1 a)), (1, .int x1), (2, .int x2)]) [0, 1, 2] rfl ?_
  rw [f_X2_bringIn] at hf
  refine J_aload_n X 0 dX2_bringIn_0 rfl rfl ?_
  refine J_iload_n X 1 dX2_bringIn_1 rfl rfl ?_
  refine J_iload_n X 2 dX2_bringIn_2 rfl rfl ?_
  obtain ⟨v1, qv1, hf⟩ := ob hf
  refine J_callV X (rest := []) (rs := [.int v1]) (c_X2_roadBetween l o emb A hA a hO x1 x2 h v1 qv1) hO.1 rfl rfl wd_340 wd_341 wd_342 wd_35 wd_343 hd_X2_roadBetween ⟨Nat.le_of_ble_eq_true rfl, Nat.le_of_ble_eq_true rfl⟩ ⟨Nat.zero_le _, Nat.zero_le _⟩ (Nat.le_of_ble_eq_true rfl) dX2_bringIn_3 rfl rfl ?_
  refine J_istore_n X [(3, .int v1), (0, .ref (o.1 a)), (1, .int x1), (2, .int x2)] dX2_bringIn_6 rfl (Nat.le_of_ble_eq_true rfl) rfl ?_
  refine J_iload_n X 0 dX2_bringIn_7 rfl rfl ?_
  refine J_bipush X (-6 : Int32) dX2_bringIn_8 (by decide) ?_
  refine J_icmp_ne (tgt := 15) X dX2_bringIn_10 (by decide) (fun c10 => ?_) (fun c10 => ?_)
  · rw [if_neg c10] at hf
    refine J_iload_n X 0 dX2_bringIn_15 rfl rfl ?_
    refine J_bipush X (100 : Int32) dX2_bringIn_16 (by decide) ?_
    refine J_icmp_lt (tgt := 23) X dX2_bringIn_18 (by decide) (fun c18 => ?_) (fun c18 => ?_)
    · rw [if_pos c18] at hf
      refine J_aload_n X 1 dX2_bringIn_23 rfl rfl ?_
      refine J_iload_n X 2 dX2_bringIn_24 rfl rfl ?_
      refine J_iload_n X 3 dX2_bringIn_25 rfl rfl ?_
      refine J_bipush X (103 : Int32) dX2_bringIn_26 (by decide) ?_
      obtain ⟨h2, qh2, hf⟩ := ob hf
      refine J_callV X (rest := []) (rs := []) (c_X2_putRoad l o emb A hA a hO x1 x2 (103 : Int32) h h2 qh2) hO.1 rfl rfl wd_344 wd_220 wd_221 wd_35 wd_222 hd_X2_putRoad ⟨Nat.le_of_ble_eq_true rfl, Nat.le_of_ble_eq_true rfl⟩ ⟨Nat.zero_le _, Nat.zero_le _⟩ (Nat.le_of_ble_eq_true rfl) dX2_bringIn_28 rfl rfl ?_
      refine J_const X (0 : Int32) dX2_bringIn_31 (by decide) ?_
      cases hf
      exact J_iret X dX2_bringIn_32
    · rw [if_neg c18] at hf
      refine J_const X (4 : Int32) dX2_bringIn_21 (by decide) ?_
      cases hf
      exact J_iret X dX2_bringIn_22
  · rw [if_pos c10] at hf
    refine J_const X (3 : Int32) dX2_bringIn_13 (by decide) ?_
    cases hf
    exact J_iret X dX2_bringIn_14
theorem hd_X2_patch : yX2_patch.cls ≠ "java/lang/invoke/MethodHandle" ∧ yX2_patch.cls ≠ "java/lang/invoke/VarHandle" ∧ (parseMethodDescriptor yX2_patch.desc).map (fun d => d.parameters.length) = some 4 := by decide +kernel
set_option maxHeartbeats 4000000 in
set_option maxRecDepth 100000 in
theorem c_X2_patch (l : Launch) (o : Om) (emb : Hp → va_W) (A : Nat → Prop) (hA : ∀ h : Hp, va_D A (emb h)) (a : Nat) (hO : isX2 o emb a) (x1 : Int32) (x2 : Int32) (x3 : Int32) (x4 : Int32) (h : Hp) (r : Int32) (h' : Hp) (hf : f_X2_patch a x1 x2 x3 x4 h = some (r, h')) : Ct l o emb A yX2_patch cX2_patch 7 (some .int) 2 45 [.ref (o.1 a), .int x1, .int x2, .int x3, .int x4] h (some (.int r)) h' := by
  refine Ct.of RX2 rfl (by decide +kernel) hA (Nat.le_of_ble_eq_true rfl) (fun p e s m args below meth c X => ?_)
  refine J_sub (lo' := [(0, .ref (o.1 a)), (1, .int x1), (2, .int x2), (3, .int x3), (4, .int x4)]) [0, 1, 2, 3, 4] rfl ?_
  rw [f_X2_patch] at hf
  refine J_aload_n X 0 dX2_patch_0 rfl rfl ?_
  refine J_iload_n X 1 dX2_patch_1 rfl rfl ?_
  refine J_iload_n X 2 dX2_patch_2 rfl rfl ?_
  obtain ⟨v1, qv1, hf⟩ := ob hf
  refine J_callV X (rest := []) (rs := [.int v1]) (c_X2_roadBetween l o emb A hA a hO x1 x2 h v1 qv1) hO.1 rfl rfl wd_340 wd_341 wd_342 wd_35 wd_343 hd_X2_roadBetween ⟨Nat.le_of_ble_eq_true rfl, Nat.le_of_ble_eq_true rfl⟩ ⟨Nat.zero_le _, Nat.zero_le _⟩ (Nat.le_of_ble_eq_true rfl) dX2_patch_3 rfl rfl ?_
  refine J_istore X [(5, .int v1), (0, .ref (o.1 a)), (1, .int x1), (2, .int x2), (3, .int x3), (4, .int x4)] dX2_patch_6 (Nat.le_of_ble_eq_true rfl) rfl ?_
  refine J_aload_n X 1 dX2_patch_8 rfl rfl ?_
  refine J_iload_n X 4 dX2_patch_9 rfl rfl ?_
  refine J_iload X 5 dX2_patch_10 rfl ?_
  obtain ⟨v2, qv2, hf⟩ := ob hf
  refine J_callV X (rest := []) (rs := [.int v2]) (c_X2_roadBetween l o emb A hA a hO x3 x4 h v2 qv2) hO.1 rfl rfl wd_340 wd_341 wd_342 wd_35 wd_343 hd_X2_roadBetween ⟨Nat.le_of_ble_eq_true rfl, Nat.le_of_ble_eq_true rfl⟩ ⟨Nat.zero_le _, Nat.zero_le _⟩ (Nat.le_of_ble_eq_true rfl) dX2_patch_12 rfl rfl ?_
  refine J_istore X [(6, .int v2), (5, .int v1), (0, .ref (o.1 a)), (1, .int x1), (2, .int x2), (3, .int x3), (4, .int x4)] dX2_patch_15 (Nat.le_of_ble_eq_true rfl) rfl ?_
  refine J_iload X 1 dX2_patch_17 rfl ?_
  refine J_bipush X (-6 : Int32) dX2_patch_19 (by decide) ?_
  refine J_icmp_eq (tgt := 31) X dX2_patch_21 (by decide) (fun c21 => ?_) (fun c21 => ?_)
  · rw [if_pos c21] at hf
    refine J_const X (3 : Int32) dX2_patch_31 (by decide) ?_
    cases hf
    exact J_iret X dX2_patch_32
  · rw [if_neg c21] at hf
    refine J_iload X 0 dX2_patch_24 rfl ?_
    refine J_bipush X (-6 : Int32) dX2_patch_26 (by decide) ?_
    refine J_icmp_ne (tgt := 33) X dX2_patch_28 (by decide) (fun c28 => ?_) (fun c28 => ?_)
    · rw [if_neg c28] at hf
      refine J_iload X 1 dX2_patch_33 rfl ?_
      refine J_bipush X (100 : Int32) dX2_patch_35 (by decide) ?_
      refine J_icmp_ge (tgt := 47) X dX2_patch_37 (by decide) (fun c37 => ?_) (fun c37 => ?_)
      · rw [if_pos c37] at hf
        refine J_const X (4 : Int32) dX2_patch_47 (by decide) ?_
        cases hf
        exact J_iret X dX2_patch_48
      · rw [if_neg c37] at hf
        refine J_iload X 0 dX2_patch_40 rfl ?_
        refine J_bipush X (100 : Int32) dX2_patch_42 (by decide) ?_
        refine J_icmp_lt (tgt := 49) X dX2_patch_44 (by decide) (fun c44 => ?_) (fun c44 => ?_)
        · rw [if_pos c44] at hf
          refine J_iload_n X 3 dX2_patch_49 rfl rfl ?_
          refine J_iload_n X 4 dX2_patch_50 rfl rfl ?_
          obtain ⟨v3, qv3, hf⟩ := ob hf
          refine J_callSN X (rest := []) (rs := [.int v3]) (c_X5_nameOfRoad l o emb A hA x1 x2 h v3 qv3) nw_349 wd_350 wd_34 wd_351 hd_X5_nameOfRoad ⟨Nat.le_of_ble_eq_true rfl, Nat.le_of_ble_eq_true rfl⟩ ⟨Nat.zero_le _, Nat.zero_le _⟩ (Nat.le_of_ble_eq_true rfl) dX2_patch_51 rfl rfl ?_
          refine J_iload_n X 5 dX2_patch_54 rfl rfl ?_
          refine J_iload X 6 dX2_patch_55 rfl ?_
          obtain ⟨v4, qv4, hf⟩ := ob hf
          refine J_callSN X (rest := [.int v3]) (rs := [.int v4, .int v3]) (c_X5_nameOfRoad l o emb A hA x3 x4 h v4 qv4) nw_349 wd_350 wd_34 wd_351 hd_X5_nameOfRoad ⟨Nat.le_of_ble_eq_true rfl, Nat.le_of_ble_eq_true rfl⟩ ⟨Nat.zero_le _, Nat.zero_le _⟩ (Nat.le_of_ble_eq_true rfl) dX2_patch_57 rfl rfl ?_
          refine J_icmp_ne (tgt := 66) X dX2_patch_60 (by decide) (fun c60 => ?_) (fun c60 => ?_)
          · rw [if_neg c60] at hf
            refine J_aload_n X 2 dX2_patch_66 rfl rfl ?_
            refine J_iload_n X 3 dX2_patch_67 rfl rfl ?_
            refine J_iload_n X 4 dX2_patch_68 rfl rfl ?_
            refine J_iload X 1 dX2_patch_69 rfl ?_
            refine J_const X (2 : Int32) dX2_patch_71 (by decide) ?_
            refine J_idiv X dX2_patch_72 (by decide) ?_
            obtain ⟨h5, qh5, hf⟩ := ob hf
            refine J_callV X (rest := []) (rs := []) (c_X2_putRoad l o emb A hA a hO x1 x2 (v1 / (2 : Int32)) h h5 qh5) hO.1 rfl rfl wd_344 wd_220 wd_221 wd_35 wd_222 hd_X2_putRoad ⟨Nat.le_of_ble_eq_true rfl, Nat.le_of_ble_eq_true rfl⟩ ⟨Nat.zero_le _, Nat.zero_le _⟩ (Nat.le_of_ble_eq_true rfl) dX2_patch_73 rfl rfl ?_
            refine J_aload_n X 2 dX2_patch_76 rfl rfl ?_
            refine J_iload_n X 5 dX2_patch_77 rfl rfl ?_
            refine J_iload X 6 dX2_patch_78 rfl ?_
            refine J_bipush X (-6 : Int32) dX2_patch_80 (by decide) ?_
            obtain ⟨h6, qh6, hf⟩ := ob hf
            refine J_callV X (rest := []) (rs := []) (c_X2_putRoad l o emb A hA a hO x3 x4 (-6 : Int32) h5 h6 qh6) hO.1 rfl rfl wd_344 wd_220 wd_221 wd_35 wd_222 hd_X2_putRoad ⟨Nat.le_of_ble_eq_true rfl, Nat.le_of_ble_eq_true rfl⟩ ⟨Nat.zero_le _, Nat.zero_le _⟩ (Nat.le_of_ble_eq_true rfl) dX2_patch_82 rfl rfl ?_
            refine J_const X (0 : Int32) dX2_patch_85 (by decide) ?_
            cases hf
            exact J_iret X dX2_patch_86
          · rw [if_pos c60] at hf
            refine J_bipush X (6 : Int32) dX2_patch_63 (by decide) ?_
            cases hf
            exact J_iret X dX2_patch_65
        · rw [if_neg c44] at hf
          refine J_const X (4 : Int32) dX2_patch_47 (by decide) ?_
          cases hf
          exact J_iret X dX2_patch_48
    · rw [if_pos c28] at hf
      refine J_const X (3 : Int32) dX2_patch_31 (by decide) ?_
      cases hf
      exact J_iret X dX2_patch_32
theorem hd_X2_passDay : yX2_passDay.cls ≠ "java/lang/invoke/MethodHandle" ∧ yX2_passDay.cls ≠ "java/lang/invoke/VarHandle" ∧ (parseMethodDescriptor yX2_passDay.desc).map (fun d => d.parameters.length) = some 0 := by decide +kernel
set_option maxHeartbeats 4000000 in
set_option maxRecDepth 100000 in
theorem cf_X2_passDay_l24 {R : Type} (hA : ∀ h : Hp, va_D A (emb h)) (X : Cx p s m args meth c RX2 cX2_passDay 2 (some .int) o) (a : Nat) (hO : isX2 o emb a)  {kx : Int32 → Hp → Option R} (t : R) : ∀ (n : Nat) (s1 : Int32) (h : Hp), f_X2_passDay_l24 a kx n s1 h = some t → (∀ (s1 : Int32) (h : Hp), kx s1 h = some t → J p l e (rmf 0 0) s m args below meth c 0 0 Z o emb A H0 2 79 [] [] h) → J p l e (rmf 0 0) s m args below meth c 0 0 Z o emb A H0 2 24 [(0, .ref (o.1 a)), (1, .int s1)] [] h := by
  intro n
  induction n with
  | zero =>
    intro s1 h hf hk
    cases hf
  | succ n ih =>
    intro s1 h hf hk
    rw [f_X2_passDay_l24] at hf
    refine J_iload_n X 1 dX2_passDay_24 rfl rfl ?_
    refine J_aload_n X 0 dX2_passDay_25 rfl rfl ?_
    refine J_get X hO.1 inX2 rfl 0 (Nat.le_of_ble_eq_true rfl) wd_61 rfl (v := .ref (o.1 (a + 1))) rfl dX2_passDay_26 ?_
    refine J_alenI X hO.2.1 (81 : Int32) (by decide) dX2_passDay_29 ?_
    refine J_icmp_ge (tgt := 79) X dX2_passDay_30 (by decide) (fun c30 => ?_) (fun c30 => ?_)
    · rw [if_pos c30] at hf
      exact J_sub [] rfl (hk s1 h hf)
    · rw [if_neg c30] at hf
      refine J_aload_n X 0 dX2_passDay_33 rfl rfl ?_
      refine J_get X hO.1 inX2 rfl 0 (Nat.le_of_ble_eq_true rfl) wd_61 rfl (v := .ref (o.1 (a + 1))) rfl dX2_passDay_34 ?_
      refine J_iload_n X 1 dX2_passDay_37 rfl rfl ?_
      obtain ⟨v2, qv2, hf⟩ := ob hf
      refine J_iald X hO.2.1 (ald_s qv2).1 dX2_passDay_38 ?_
      refine J_topi v2 (ald_s qv2).2 ?_
      refine J_bipush X (100 : Int32) dX2_passDay_39 (by decide) ?_
      refine J_icmp_le (tgt := 73) X dX2_passDay_41 (by decide) (fun c41 => ?_) (fun c41 => ?_)
      · rw [if_pos c41] at hf
        obtain ⟨v3, qv3, hf⟩ := ob hf
        refine J_iinc X 1 [(1, .int v3), (0, .ref (o.1 a))] dX2_passDay_73 rfl (Option.some.inj qv3) (Nat.le_of_ble_eq_true rfl) rfl ?_
        refine J_goto (tgt := 24) X dX2_passDay_76 (by decide) ?_
        exact J_sub [1, 0] rfl (ih v3 h hf hk)
      · rw [if_neg c41] at hf
        refine J_aload_n X 0 dX2_passDay_44 rfl rfl ?_
        refine J_get X hO.1 inX2 rfl 0 (Nat.le_of_ble_eq_true rfl) wd_61 rfl (v := .ref (o.1 (a + 1))) rfl dX2_passDay_45 ?_
        refine J_iload_n X 1 dX2_passDay_48 rfl rfl ?_
        refine J_aload_n X 0 dX2_passDay_49 rfl rfl ?_
        refine J_get X hO.1 inX2 rfl 0 (Nat.le_of_ble_eq_true rfl) wd_61 rfl (v := .ref (o.1 (a + 1))) rfl dX2_passDay_50 ?_
        refine J_iload_n X 1 dX2_passDay_53 rfl rfl ?_
        obtain ⟨v4, qv4, hf⟩ := ob hf
        refine J_iald X hO.2.1 (ald_s qv4).1 dX2_passDay_54 ?_
        refine J_topi v4 (ald_s qv4).2 ?_
        refine J_bipush X (101 : Int32) dX2_passDay_55 (by decide) ?_
        obtain ⟨t6, qt6, hf⟩ := ob hf
        have yk5 : J p l e (rmf 0 0) s m args below meth c 0 0 Z o emb A H0 2 72 [(0, .ref (o.1 a)), (1, .int s1)] [.int t6, .int s1, .ref (o.1 (a + 1))] h := by
          obtain ⟨h7, qh7, hf⟩ := ob hf
          refine J_iast X hO.2.1 (ast_s qh7).1 dX2_passDay_72 ?_
          refine J_hp h7 (ast_s qh7).2 ?_
          obtain ⟨v8, qv8, hf⟩ := ob hf
          refine J_iinc X 1 [(1, .int v8), (0, .ref (o.1 a))] dX2_passDay_73 rfl (Option.some.inj qv8) (Nat.le_of_ble_eq_true rfl) rfl ?_
          refine J_goto (tgt := 24) X dX2_passDay_76 (by decide) ?_
          exact J_sub [1, 0] rfl (ih v8 h7 hf hk)
        clear hf
        have hf := qt6
        clear qt6
        refine J_icmp_ne (tgt := 64) X dX2_passDay_57 (by decide) (fun c57 => ?_) (fun c57 => ?_)
        · rw [if_neg c57] at hf
          refine J_aload_n X 0 dX2_passDay_64 rfl rfl ?_
          refine J_get X hO.1 inX2 rfl 0 (Nat.le_of_ble_eq_true rfl) wd_61 rfl (v := .ref (o.1 (a + 1))) rfl dX2_passDay_65 ?_
          refine J_iload_n X 1 dX2_passDay_68 rfl rfl ?_
          obtain ⟨v9, qv9, hf⟩ := ob hf
          refine J_iald X hO.2.1 (ald_s qv9).1 dX2_passDay_69 ?_
          refine J_topi v9 (ald_s qv9).2 ?_
          refine J_const X (1 : Int32) dX2_passDay_70 (by decide) ?_
          refine J_isub X dX2_passDay_71 ?_
          cases hf
          exact J_sub [0, 1] rfl yk5
        · rw [if_pos c57] at hf
          refine J_const X (0 : Int32) dX2_passDay_60 (by decide) ?_
          refine J_goto (tgt := 72) X dX2_passDay_61 (by decide) ?_
          cases hf
          exact J_sub [0, 1] rfl yk5
set_option maxHeartbeats 4000000 in
set_option maxRecDepth 100000 in
theorem c_X2_passDay (l : Launch) (o : Om) (emb : Hp → va_W) (A : Nat → Prop) (hA : ∀ h : Hp, va_D A (emb h)) (a : Nat) (hO : isX2 o emb a) (h : Hp) (r : Int32) (h' : Hp) (hf : f_X2_passDay a h = some (r, h')) : Ct l o emb A yX2_passDay cX2_passDay 2 (some .int) 0 0 [.ref (o.1 a)] h (some (.int r)) h' := by
  refine Ct.of RX2 rfl (by decide +kernel) hA (Nat.le_of_ble_eq_true rfl) (fun p e s m args below meth c X => ?_)
  refine J_sub (lo' := [(0, .ref (o.1 a))]) [0] rfl ?_
  rw [f_X2_passDay] at hf
  refine J_aload_n X 0 dX2_passDay_0 rfl rfl ?_
  refine J_get X hO.1 inX2 rfl 3 (Nat.le_of_ble_eq_true rfl) wd_64 rfl (v := .int (h.1 a 3)) rfl dX2_passDay_1 ?_
  refine J_bipush X (99 : Int32) dX2_passDay_4 (by decide) ?_
  refine J_icmp_lt (tgt := 12) X dX2_passDay_6 (by decide) (fun c6 => ?_) (fun c6 => ?_)
  · rw [if_pos c6] at hf
    refine J_aload_n X 0 dX2_passDay_12 rfl rfl ?_
    refine J_dup X dX2_passDay_13 rfl ?_
    refine J_get X hO.1 inX2 rfl 3 (Nat.le_of_ble_eq_true rfl) wd_64 rfl (v := .int (h.1 a 3)) rfl dX2_passDay_14 ?_
    refine J_const X (1 : Int32) dX2_passDay_17 (by decide) ?_
    refine J_iadd X dX2_passDay_18 ?_
    obtain ⟨h1, qh1, hf⟩ := ob hf
    refine J_put X hO.1 inX2 tyX2 tyX2_ok nmX2 rfl 3 (Nat.le_of_ble_eq_true rfl) (by decide) wd_64 rfl rfl (ty := .int) (by decide +kernel) rfl rfl (Nat.le_of_ble_eq_true rfl) dX2_passDay_19 ?_
    refine J_hp h1 (Option.some.inj qh1) ?_
    refine J_const X (0 : Int32) dX2_passDay_22 (by decide) ?_
    refine J_istore_n X [(1, .int (0 : Int32)), (0, .ref (o.1 a))] dX2_passDay_23 rfl (Nat.le_of_ble_eq_true rfl) rfl ?_
    refine J_sub (lo' := [(0, .ref (o.1 a)), (1, .int (0 : Int32))]) [1, 0] rfl ?_
    refine cf_X2_passDay_l24 hA X a hO  _ _ (0 : Int32) h1 hf (fun w10 h11 hf => ?_)
    refine J_const X (0 : Int32) dX2_passDay_79 (by decide) ?_
    cases hf
    exact J_iret X dX2_passDay_80
  · rw [if_neg c6] at hf
    refine J_bipush X (7 : Int32) dX2_passDay_9 (by decide) ?_
    cases hf
    exact J_iret X dX2_passDay_11
theorem hd_X3_copyFrom : yX3_copyFrom.cls ≠ "java/lang/invoke/MethodHandle" ∧ yX3_copyFrom.cls ≠ "java/lang/invoke/VarHandle" ∧ (parseMethodDescriptor yX3_copyFrom.desc).map (fun d => d.parameters.length) = some 1 := by decide +kernel
set_option maxHeartbeats 4000000 in
set_option maxRecDepth 100000 in
theorem c_X3_copyFrom (l : Launch) (o : Om) (emb : Hp → va_W) (A : Nat → Prop) (hA : ∀ h : Hp, va_D A (emb h)) (a : Nat) (b1 : Nat) (hO : isX3 o emb a) (hB1 : isX3 o emb b1) (h : Hp)  (h' : Hp) (hf : f_X3_copyFrom a b1 h = some h') : Ct l o emb A yX3_copyFrom cX3_copyFrom 2 none 1 22 [.ref (o.1 a), .ref (o.1 b1)] h none h' := by
  refine Ct.of RX3 rfl (by decide +kernel) hA (Nat.le_of_ble_eq_true rfl) (fun p e s m args below meth c X => ?_)
  refine J_sub (lo' := [(0, .ref (o.1 a)), (1, .ref (o.1 b1))]) [0, 1] rfl ?_
  rw [f_X3_copyFrom] at hf
  refine J_aload_n X 1 dX3_copyFrom_0 rfl rfl ?_
  refine J_get X hB1.1 inX3 rfl 0 (Nat.le_of_ble_eq_true rfl) wd_87 rfl (v := .ref (o.1 (b1 + 1))) rfl dX3_copyFrom_1 ?_
  refine J_aload_n X 0 dX3_copyFrom_4 rfl rfl ?_
  refine J_get X hO.1 inX3 rfl 0 (Nat.le_of_ble_eq_true rfl) wd_87 rfl (v := .ref (o.1 (a + 1))) rfl dX3_copyFrom_5 ?_
  obtain ⟨h1, qh1, hf⟩ := ob hf
  refine J_callSN X (rest := []) (rs := []) (c_X5_copy l o emb A hA (b1 + 1) 8 (a + 1) 8 hB1.2.1 hO.2.1 h h1 qh1) nw_576 wd_324 wd_34 wd_325 hd_X5_copy ⟨Nat.le_of_ble_eq_true rfl, Nat.le_of_ble_eq_true rfl⟩ ⟨Nat.zero_le _, Nat.zero_le _⟩ (Nat.le_of_ble_eq_true rfl) dX3_copyFrom_8 rfl rfl ?_
  refine J_aload_n X 1 dX3_copyFrom_11 rfl rfl ?_
  refine J_get X hB1.1 inX3 rfl 1 (Nat.le_of_ble_eq_true rfl) wd_88 rfl (v := .ref (o.1 (b1 + 2))) rfl dX3_copyFrom_12 ?_
  refine J_aload_n X 0 dX3_copyFrom_15 rfl rfl ?_
  refine J_get X hO.1 inX3 rfl 1 (Nat.le_of_ble_eq_true rfl) wd_88 rfl (v := .ref (o.1 (a + 2))) rfl dX3_copyFrom_16 ?_
  obtain ⟨h2, qh2, hf⟩ := ob hf
  refine J_callSN X (rest := []) (rs := []) (c_X5_copy l o emb A hA (b1 + 2) 8 (a + 2) 8 hB1.2.2.1 hO.2.2.1 h1 h2 qh2) nw_576 wd_324 wd_34 wd_325 hd_X5_copy ⟨Nat.le_of_ble_eq_true rfl, Nat.le_of_ble_eq_true rfl⟩ ⟨Nat.zero_le _, Nat.zero_le _⟩ (Nat.le_of_ble_eq_true rfl) dX3_copyFrom_19 rfl rfl ?_
  refine J_aload_n X 1 dX3_copyFrom_22 rfl rfl ?_
  refine J_get X hB1.1 inX3 rfl 2 (Nat.le_of_ble_eq_true rfl) wd_89 rfl (v := .ref (o.1 (b1 + 3))) rfl dX3_copyFrom_23 ?_
  refine J_aload_n X 0 dX3_copyFrom_26 rfl rfl ?_
  refine J_get X hO.1 inX3 rfl 2 (Nat.le_of_ble_eq_true rfl) wd_89 rfl (v := .ref (o.1 (a + 3))) rfl dX3_copyFrom_27 ?_
  obtain ⟨h3, qh3, hf⟩ := ob hf
  refine J_callSN X (rest := []) (rs := []) (c_X5_copy l o emb A hA (b1 + 3) 8 (a + 3) 8 hB1.2.2.2 hO.2.2.2 h2 h3 qh3) nw_576 wd_324 wd_34 wd_325 hd_X5_copy ⟨Nat.le_of_ble_eq_true rfl, Nat.le_of_ble_eq_true rfl⟩ ⟨Nat.zero_le _, Nat.zero_le _⟩ (Nat.le_of_ble_eq_true rfl) dX3_copyFrom_30 rfl rfl ?_
  refine J_aload_n X 0 dX3_copyFrom_33 rfl rfl ?_
  refine J_aload_n X 1 dX3_copyFrom_34 rfl rfl ?_
  refine J_get X hB1.1 inX3 rfl 3 (Nat.le_of_ble_eq_true rfl) wd_90 rfl (v := .int (h3.1 b1 3)) rfl dX3_copyFrom_35 ?_
  obtain ⟨h4, qh4, hf⟩ := ob hf
  refine J_put X hO.1 inX3 tyX3 tyX3_ok nmX3 rfl 3 (Nat.le_of_ble_eq_true rfl) (by decide) wd_90 rfl rfl (ty := .int) (by decide +kernel) rfl rfl (Nat.le_of_ble_eq_true rfl) dX3_copyFrom_38 ?_
  refine J_hp h4 (Option.some.inj qh4) ?_
  cases hf
  exact J_vret X dX3_copyFrom_41
theorem hd_X3_add : yX3_add.cls ≠ "java/lang/invoke/MethodHandle" ∧ yX3_add.cls ≠ "java/lang/invoke/VarHandle" ∧ (parseMethodDescriptor yX3_add.desc).map (fun d => d.parameters.length) = some 3 := by decide +kernel
set_option maxHeartbeats 4000000 in
set_option maxRecDepth 100000 in
theorem c_X3_add (l : Launch) (o : Om) (emb : Hp → va_W) (A : Nat → Prop) (hA : ∀ h : Hp, va_D A (emb h)) (a : Nat) (hO : isX3 o emb a) (x1 : Int32) (x2 : Int32) (x3 : Int32) (h : Hp)  (h' : Hp) (hf : f_X3_add a x1 x2 x3 h = some h') : Ct l o emb A yX3_add cX3_add 4 none 1 22 [.ref (o.1 a), .int x1, .int x2, .int x3] h none h' := by
  refine Ct.of RX3 rfl (by decide +kernel) hA (Nat.le_of_ble_eq_true rfl) (fun p e s m args below meth c X => ?_)
  refine J_sub (lo' := [(0, .ref (o.1 a)), (1, .int x1), (2, .int x2), (3, .int x3)]) [0, 1, 2, 3] rfl ?_
  rw [f_X3_add] at hf
  refine J_aload_n X 0 dX3_add_0 rfl rfl ?_
  refine J_get X hO.1 inX3 rfl 3 (Nat.le_of_ble_eq_true rfl) wd_90 rfl (v := .int (h.1 a 3)) rfl dX3_add_1 ?_
  refine J_bipush X (8 : Int32) dX3_add_4 (by decide) ?_
  refine J_icmp_lt (tgt := 10) X dX3_add_6 (by decide) (fun c6 => ?_) (fun c6 => ?_)
  · rw [if_pos c6] at hf
    refine J_aload_n X 0 dX3_add_10 rfl rfl ?_
    refine J_get X hO.1 inX3 rfl 0 (Nat.le_of_ble_eq_true rfl) wd_87 rfl (v := .ref (o.1 (a + 1))) rfl dX3_add_11 ?_
    refine J_aload_n X 0 dX3_add_14 rfl rfl ?_
    refine J_get X hO.1 inX3 rfl 3 (Nat.le_of_ble_eq_true rfl) wd_90 rfl (v := .int (h.1 a 3)) rfl dX3_add_15 ?_
    refine J_iload_n X 1 dX3_add_18 rfl rfl ?_
    obtain ⟨h1, qh1, hf⟩ := ob hf
    refine J_callSN X (rest := []) (rs := []) (c_X5_put l o emb A hA (a + 1) 8 hO.2.1 (h.1 a 3) x1 h h1 qh1) nw_501 wd_225 wd_34 wd_226 hd_X5_put ⟨Nat.le_of_ble_eq_true rfl, Nat.le_of_ble_eq_true rfl⟩ ⟨Nat.zero_le _, Nat.zero_le _⟩ (Nat.le_of_ble_eq_true rfl) dX3_add_19 rfl rfl ?_
    refine J_aload_n X 0 dX3_add_22 rfl rfl ?_
    refine J_get X hO.1 inX3 rfl 1 (Nat.le_of_ble_eq_true rfl) wd_88 rfl (v := .ref (o.1 (a + 2))) rfl dX3_add_23 ?_
    refine J_aload_n X 0 dX3_add_26 rfl rfl ?_
    refine J_get X hO.1 inX3 rfl 3 (Nat.le_of_ble_eq_true rfl) wd_90 rfl (v := .int (h1.1 a 3)) rfl dX3_add_27 ?_
    refine J_iload_n X 2 dX3_add_30 rfl rfl ?_
    obtain ⟨h2, qh2, hf⟩ := ob hf
    refine J_callSN X (rest := []) (rs := []) (c_X5_put l o emb A hA (a + 2) 8 hO.2.2.1 (h1.1 a 3) x2 h1 h2 qh2) nw_501 wd_225 wd_34 wd_226 hd_X5_put ⟨Nat.le_of_ble_eq_true rfl, Nat.le_of_ble_eq_true rfl⟩ ⟨Nat.zero_le _, Nat.zero_le _⟩ (Nat.le_of_ble_eq_true rfl) dX3_add_31 rfl rfl ?_
    refine J_aload_n X 0 dX3_add_34 rfl rfl ?_
    refine J_get X hO.1 inX3 rfl 2 (Nat.le_of_ble_eq_true rfl) wd_89 rfl (v := .ref (o.1 (a + 3))) rfl dX3_add_35 ?_
    refine J_aload_n X 0 dX3_add_38 rfl rfl ?_
    refine J_get X hO.1 inX3 rfl 3 (Nat.le_of_ble_eq_true rfl) wd_90 rfl (v := .int (h2.1 a 3)) rfl dX3_add_39 ?_
    refine J_iload_n X 3 dX3_add_42 rfl rfl ?_
    obtain ⟨h3, qh3, hf⟩ := ob hf
    refine J_callSN X (rest := []) (rs := []) (c_X5_put l o emb A hA (a + 3) 8 hO.2.2.2 (h2.1 a 3) x3 h2 h3 qh3) nw_501 wd_225 wd_34 wd_226 hd_X5_put ⟨Nat.le_of_ble_eq_true rfl, Nat.le_of_ble_eq_true rfl⟩ ⟨Nat.zero_le _, Nat.zero_le _⟩ (Nat.le_of_ble_eq_true rfl) dX3_add_43 rfl rfl ?_
    refine J_aload_n X 0 dX3_add_46 rfl rfl ?_
    refine J_dup X dX3_add_47 rfl ?_
    refine J_get X hO.1 inX3 rfl 3 (Nat.le_of_ble_eq_true rfl) wd_90 rfl (v := .int (h3.1 a 3)) rfl dX3_add_48 ?_
    refine J_const X (1 : Int32) dX3_add_51 (by decide) ?_
    refine J_iadd X dX3_add_52 ?_
    obtain ⟨h4, qh4, hf⟩ := ob hf
    refine J_put X hO.1 inX3 tyX3 tyX3_ok nmX3 rfl 3 (Nat.le_of_ble_eq_true rfl) (by decide) wd_90 rfl rfl (ty := .int) (by decide +kernel) rfl rfl (Nat.le_of_ble_eq_true rfl) dX3_add_53 ?_
    refine J_hp h4 (Option.some.inj qh4) ?_
    cases hf
    exact J_vret X dX3_add_56
  · rw [if_neg c6] at hf
    cases hf
    exact J_vret X dX3_add_9
theorem hd_X3_allowGuess : yX3_allowGuess.cls ≠ "java/lang/invoke/MethodHandle" ∧ yX3_allowGuess.cls ≠ "java/lang/invoke/VarHandle" ∧ (parseMethodDescriptor yX3_allowGuess.desc).map (fun d => d.parameters.length) = some 1 := by decide +kernel
set_option maxHeartbeats 4000000 in
set_option maxRecDepth 100000 in
theorem cf_X3_allowGuess_l2 (hA : ∀ h : Hp, va_D A (emb h)) (X : Cx p s m args meth c RX3 cX3_allowGuess 3 (some .boolean) o) (a : Nat) (hO : isX3 o emb a) (s1 : Int32) (h : Hp) {kx : Int32 → Option Int32} (r : Int32) : ∀ (n : Nat) (s2 : Int32), f_X3_allowGuess_l2 a s1 h kx n s2 = some r → (∀ (s2 : Int32), kx s2 = some r → J p l e (rmf 1 25) s m args below meth c 0 0 (MQ below (WdQ o emb A (some (.int r)) h) args s 0 0 A) o emb A s.heap 3 55 [] [] h) → J p l e (rmf 1 25) s m args below meth c 0 0 (MQ below (WdQ o emb A (some (.int r)) h) args s 0 0 A) o emb A s.heap 3 2 [(0, .ref (o.1 a)), (1, .int s1), (2, .int s2)] [] h := by
  intro n
  induction n with
  | zero =>
    intro s2 hf hk
    cases hf
  | succ n ih =>
    intro s2 hf hk
    rw [f_X3_allowGuess_l2] at hf
    refine J_iload_n X 2 dX3_allowGuess_2 rfl rfl ?_
    refine J_aload_n X 0 dX3_allowGuess_3 rfl rfl ?_
    refine J_get X hO.1 inX3 rfl 3 (Nat.le_of_ble_eq_true rfl) wd_90 rfl (v := .int (h.1 a 3)) rfl dX3_allowGuess_4 ?_
    refine J_icmp_ge (tgt := 55) X dX3_allowGuess_7 (by decide) (fun c7 => ?_) (fun c7 => ?_)
    · rw [if_pos c7] at hf
      exact J_sub [] rfl (hk s2 hf)
    · rw [if_neg c7] at hf
      refine J_iload_n X 2 dX3_allowGuess_10 rfl rfl ?_
      refine J_bipush X (8 : Int32) dX3_allowGuess_11 (by decide) ?_
      refine J_icmp_ge (tgt := 55) X dX3_allowGuess_13 (by decide) (fun c13 => ?_) (fun c13 => ?_)
      · rw [if_pos c13] at hf
        exact J_sub [] rfl (hk s2 hf)
      · rw [if_neg c13] at hf
        refine J_aload_n X 0 dX3_allowGuess_16 rfl rfl ?_
        refine J_get X hO.1 inX3 rfl 0 (Nat.le_of_ble_eq_true rfl) wd_87 rfl (v := .ref (o.1 (a + 1))) rfl dX3_allowGuess_17 ?_
        refine J_iload_n X 2 dX3_allowGuess_20 rfl rfl ?_
        obtain ⟨v1, qv1, hf⟩ := ob hf
        refine J_callSN X (rest := []) (rs := [.int v1]) (c_X5_at l o emb A hA (a + 1) 8 hO.2.1 s2 h v1 qv1) nw_518 wd_255 wd_34 wd_256 hd_X5_at ⟨Nat.le_of_ble_eq_true rfl, Nat.le_of_ble_eq_true rfl⟩ ⟨Nat.zero_le _, Nat.zero_le _⟩ (Nat.le_of_ble_eq_true rfl) dX3_allowGuess_21 rfl rfl ?_
        refine J_aload_n X 0 dX3_allowGuess_24 rfl rfl ?_
        refine J_get X hO.1 inX3 rfl 1 (Nat.le_of_ble_eq_true rfl) wd_88 rfl (v := .ref (o.1 (a + 2))) rfl dX3_allowGuess_25 ?_
        refine J_iload_n X 2 dX3_allowGuess_28 rfl rfl ?_
        obtain ⟨v2, qv2, hf⟩ := ob hf
        refine J_callSN X (rest := [.int v1]) (rs := [.int v2, .int v1]) (c_X5_at l o emb A hA (a + 2) 8 hO.2.2.1 s2 h v2 qv2) nw_518 wd_255 wd_34 wd_256 hd_X5_at ⟨Nat.le_of_ble_eq_true rfl, Nat.le_of_ble_eq_true rfl⟩ ⟨Nat.zero_le _, Nat.zero_le _⟩ (Nat.le_of_ble_eq_true rfl) dX3_allowGuess_29 rfl rfl ?_
        refine J_iload_n X 1 dX3_allowGuess_32 rfl rfl ?_
        obtain ⟨v3, qv3, hf⟩ := ob hf
        refine J_callSN X (rest := []) (rs := [.int v3]) (c_X5_reading l o emb A hA v1 v2 s1 h v3 qv3) nw_519 wd_520 wd_34 wd_521 hd_X5_reading ⟨Nat.le_of_ble_eq_true rfl, Nat.le_of_ble_eq_true rfl⟩ ⟨Nat.zero_le _, Nat.zero_le _⟩ (Nat.le_of_ble_eq_true rfl) dX3_allowGuess_33 rfl rfl ?_
        refine J_aload_n X 0 dX3_allowGuess_36 rfl rfl ?_
        refine J_get X hO.1 inX3 rfl 2 (Nat.le_of_ble_eq_true rfl) wd_89 rfl (v := .ref (o.1 (a + 3))) rfl dX3_allowGuess_37 ?_
        refine J_iload_n X 2 dX3_allowGuess_40 rfl rfl ?_
        obtain ⟨v4, qv4, hf⟩ := ob hf
        refine J_callSN X (rest := [.int v3]) (rs := [.int v4, .int v3]) (c_X5_at l o emb A hA (a + 3) 8 hO.2.2.2 s2 h v4 qv4) nw_518 wd_255 wd_34 wd_256 hd_X5_at ⟨Nat.le_of_ble_eq_true rfl, Nat.le_of_ble_eq_true rfl⟩ ⟨Nat.zero_le _, Nat.zero_le _⟩ (Nat.le_of_ble_eq_true rfl) dX3_allowGuess_41 rfl rfl ?_
        refine J_icmp_eq (tgt := 49) X dX3_allowGuess_44 (by decide) (fun c44 => ?_) (fun c44 => ?_)
        · rw [if_pos c44] at hf
          obtain ⟨v5, qv5, hf⟩ := ob hf
          refine J_iinc X 2 [(2, .int v5), (0, .ref (o.1 a)), (1, .int s1)] dX3_allowGuess_49 rfl (Option.some.inj qv5) (Nat.le_of_ble_eq_true rfl) rfl ?_
          refine J_goto (tgt := 2) X dX3_allowGuess_52 (by decide) ?_
          exact J_sub [1, 2, 0] rfl (ih v5 hf hk)
        · rw [if_neg c44] at hf
          refine J_const X (0 : Int32) dX3_allowGuess_47 (by decide) ?_
          cases hf
          exact J_zret X rfl dX3_allowGuess_48
set_option maxHeartbeats 4000000 in
set_option maxRecDepth 100000 in
theorem c_X3_allowGuess (l : Launch) (o : Om) (emb : Hp → va_W) (A : Nat → Prop) (hA : ∀ h : Hp, va_D A (emb h)) (a : Nat) (hO : isX3 o emb a) (x1 : Int32) (h : Hp) (r : Int32) (hf : f_X3_allowGuess a x1 h = some r) : Ct l o emb A yX3_allowGuess cX3_allowGuess 3 (some .boolean) 1 25 [.ref (o.1 a), .int x1] h (some (.int r)) h := by
  refine Ct.of RX3 rfl (by decide +kernel) hA (Nat.le_of_ble_eq_true rfl) (fun p e s m args below meth c X => ?_)
  refine J_sub (lo' := [(0, .ref (o.1 a)), (1, .int x1)]) [0, 1] rfl ?_
  rw [f_X3_allowGuess] at hf
  refine J_const X (0 : Int32) dX3_allowGuess_0 (by decide) ?_
  refine J_istore_n X [(2, .int (0 : Int32)), (0, .ref (o.1 a)), (1, .int x1)] dX3_allowGuess_1 rfl (Nat.le_of_ble_eq_true rfl) rfl ?_
  refine J_sub (lo' := [(0, .ref (o.1 a)), (1, .int x1), (2, .int (0 : Int32))]) [1, 2, 0] rfl ?_
  refine cf_X3_allowGuess_l2 hA X a hO x1 h r _ (0 : Int32) hf (fun w6 hf => ?_)
  refine J_const X (1 : Int32) dX3_allowGuess_55 (by decide) ?_
  cases hf
  exact J_zret X rfl dX3_allowGuess_56
end CERT
