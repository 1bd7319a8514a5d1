section CERT
variable {p : Program} {l : Launch} {e : Env} {s : State} {m : MethodId} {args : Array Value} {below : List Frame} {meth : Method} {c : Code} {Z : State → Prop} {o : Om} {emb : Hp → va_W} {A : Nat → Prop} {H0 : Heap}
theorem hd_X4_begin : yX4_begin.cls ≠ "java/lang/invoke/MethodHandle" ∧ yX4_begin.cls ≠ "java/lang/invoke/VarHandle" ∧ (parseMethodDescriptor yX4_begin.desc).map (fun d => d.parameters.length) = some 1 := by decide +kernel
set_option maxHeartbeats 4000000 in
set_option maxRecDepth 100000 in
theorem c_X4_begin (l : Launch) (o : Om) (emb : Hp → va_W) (A : Nat → Prop) (hA : ∀ h : Hp, va_D A (emb h)) (b1 : Nat) (hO : isX4 o emb) (hB1 : isX2 o emb b1) (h : Hp)  (h' : Hp) (hf : f_X4_begin b1 h = some h') : Ct l o emb A yX4_begin cX4_begin 2 none 2 43 [.ref (o.1 11), .ref (o.1 b1)] h none h' := by
  refine Ct.of RX4 rfl (by decide +kernel) hA (Nat.le_of_ble_eq_true rfl) (fun p e s m args below meth c X => ?_)
  refine J_sub (lo' := [(0, .ref (o.1 11)), (1, .ref (o.1 b1))]) [0, 1] rfl ?_
  rw [f_X4_begin] at hf
  refine J_aload_n X 0 dX4_begin_0 rfl rfl ?_
  refine J_get X hO.1 inX4 rfl 0 (Nat.le_of_ble_eq_true rfl) wd_124 rfl (v := .ref (o.1 12)) rfl dX4_begin_1 ?_
  refine J_aload_n X 1 dX4_begin_4 rfl rfl ?_
  obtain ⟨h1, qh1, hf⟩ := ob hf
  refine J_callV X (rest := []) (rs := []) (c_X2_copyFrom l o emb A hA 12 b1 hO.2 hB1 h h1 qh1) hO.2.1 rfl rfl wd_319 wd_320 wd_321 wd_35 wd_322 hd_X2_copyFrom ⟨Nat.le_of_ble_eq_true rfl, Nat.le_of_ble_eq_true rfl⟩ ⟨Nat.zero_le _, Nat.zero_le _⟩ (Nat.le_of_ble_eq_true rfl) dX4_begin_5 rfl rfl ?_
  refine J_aload_n X 0 dX4_begin_8 rfl rfl ?_
  refine J_const X (0 : Int32) dX4_begin_9 (by decide) ?_
  obtain ⟨h2, qh2, hf⟩ := ob hf
  refine J_put X hO.1 inX4 tyX4 tyX4_ok nmX4 rfl 1 (Nat.le_of_ble_eq_true rfl) (by decide) wd_126 rfl rfl (ty := .int) (by decide +kernel) rfl rfl (Nat.le_of_ble_eq_true rfl) dX4_begin_10 ?_
  refine J_hp h2 (Option.some.inj qh2) ?_
  refine J_aload_n X 0 dX4_begin_13 rfl rfl ?_
  refine J_bipush X (-6 : Int32) dX4_begin_14 (by decide) ?_
  obtain ⟨h3, qh3, hf⟩ := ob hf
  refine J_put X hO.1 inX4 tyX4 tyX4_ok nmX4 rfl 2 (Nat.le_of_ble_eq_true rfl) (by decide) wd_128 rfl rfl (ty := .int) (by decide +kernel) rfl rfl (Nat.le_of_ble_eq_true rfl) dX4_begin_16 ?_
  refine J_hp h3 (Option.some.inj qh3) ?_
  refine J_aload_n X 0 dX4_begin_19 rfl rfl ?_
  refine J_bipush X (-6 : Int32) dX4_begin_20 (by decide) ?_
  obtain ⟨h4, qh4, hf⟩ := ob hf
  refine J_put X hO.1 inX4 tyX4 tyX4_ok nmX4 rfl 3 (Nat.le_of_ble_eq_true rfl) (by decide) wd_130 rfl rfl (ty := .int) (by decide +kernel) rfl rfl (Nat.le_of_ble_eq_true rfl) dX4_begin_22 ?_
  refine J_hp h4 (Option.some.inj qh4) ?_
  refine J_aload_n X 0 dX4_begin_25 rfl rfl ?_
  refine J_bipush X (-6 : Int32) dX4_begin_26 (by decide) ?_
  obtain ⟨h5, qh5, hf⟩ := ob hf
  refine J_put X hO.1 inX4 tyX4 tyX4_ok nmX4 rfl 4 (Nat.le_of_ble_eq_true rfl) (by decide) wd_132 rfl rfl (ty := .int) (by decide +kernel) rfl rfl (Nat.le_of_ble_eq_true rfl) dX4_begin_28 ?_
  refine J_hp h5 (Option.some.inj qh5) ?_
  cases hf
  exact J_vret X dX4_begin_31
theorem hd_X4_take : yX4_take.cls ≠ "java/lang/invoke/MethodHandle" ∧ yX4_take.cls ≠ "java/lang/invoke/VarHandle" ∧ (parseMethodDescriptor yX4_take.desc).map (fun d => d.parameters.length) = some 2 := by decide +kernel
set_option maxHeartbeats 4000000 in
set_option maxRecDepth 100000 in
theorem c_X4_take (l : Launch) (o : Om) (emb : Hp → va_W) (A : Nat → Prop) (hA : ∀ h : Hp, va_D A (emb h)) (hO : isX4 o emb) (hB1 : isX1 o emb) (x2 : Int32) (h : Hp) (r : Int32) (h' : Hp) (hf : f_X4_take x2 h = some (r, h')) : Ct l o emb A yX4_take cX4_take 6 (some .int) 3 71 [.ref (o.1 11), .ref (o.1 9), .int x2] h (some (.int r)) h' := by
  refine Ct.of RX4 rfl (by decide +kernel) hA (Nat.le_of_ble_eq_true rfl) (fun p e s m args below meth c X => ?_)
  refine J_sub (lo' := [(0, .ref (o.1 11)), (1, .ref (o.1 9)), (2, .int x2)]) [0, 1, 2] rfl ?_
  rw [f_X4_take] at hf
  refine J_aload_n X 1 dX4_take_0 rfl rfl ?_
  refine J_iload_n X 2 dX4_take_1 rfl rfl ?_
  obtain ⟨v1, qv1, hf⟩ := ob hf
  refine J_callV X (rest := []) (rs := [.int v1]) (c_X1_signAt l o emb A hA hB1 x2 h v1 qv1) hB1.1 rfl rfl wd_330 wd_293 wd_294 wd_38 wd_295 hd_X1_signAt ⟨Nat.le_of_ble_eq_true rfl, Nat.le_of_ble_eq_true rfl⟩ ⟨Nat.zero_le _, Nat.zero_le _⟩ (Nat.le_of_ble_eq_true rfl) dX4_take_2 rfl rfl ?_
  refine J_istore_n X [(3, .int v1), (0, .ref (o.1 11)), (1, .ref (o.1 9)), (2, .int x2)] dX4_take_5 rfl (Nat.le_of_ble_eq_true rfl) rfl ?_
  refine J_iload_n X 0 dX4_take_6 rfl rfl ?_
  refine J_bipush X (46 : Int32) dX4_take_7 (by decide) ?_
  refine J_icmp_ne (tgt := 20) X dX4_take_9 (by decide) (fun c9 => ?_) (fun c9 => ?_)
  · rw [if_neg c9] at hf
    refine J_aload_n X 2 dX4_take_20 rfl rfl ?_
    refine J_iload_n X 3 dX4_take_21 rfl rfl ?_
    refine J_const X (1 : Int32) dX4_take_22 (by decide) ?_
    refine J_iadd X dX4_take_23 ?_
    obtain ⟨v2, qv2, hf⟩ := ob hf
    refine J_callV X (rest := []) (rs := [.int v2]) (c_X1_placeAt l o emb A hA hB1 (x2 + (1 : Int32)) h v2 qv2) hB1.1 rfl rfl wd_335 wd_303 wd_304 wd_38 wd_305 hd_X1_placeAt ⟨Nat.le_of_ble_eq_true rfl, Nat.le_of_ble_eq_true rfl⟩ ⟨Nat.zero_le _, Nat.zero_le _⟩ (Nat.le_of_ble_eq_true rfl) dX4_take_24 rfl rfl ?_
    refine J_istore X [(4, .int v2), (3, .int v1), (0, .ref (o.1 11)), (1, .ref (o.1 9)), (2, .int x2)] dX4_take_27 (Nat.le_of_ble_eq_true rfl) rfl ?_
    refine J_aload_n X 3 dX4_take_29 rfl rfl ?_
    refine J_iload_n X 4 dX4_take_30 rfl rfl ?_
    refine J_const X (2 : Int32) dX4_take_31 (by decide) ?_
    refine J_iadd X dX4_take_32 ?_
    obtain ⟨v3, qv3, hf⟩ := ob hf
    refine J_callV X (rest := []) (rs := [.int v3]) (c_X1_placeAt l o emb A hA hB1 (x2 + (2 : Int32)) h v3 qv3) hB1.1 rfl rfl wd_335 wd_303 wd_304 wd_38 wd_305 hd_X1_placeAt ⟨Nat.le_of_ble_eq_true rfl, Nat.le_of_ble_eq_true rfl⟩ ⟨Nat.zero_le _, Nat.zero_le _⟩ (Nat.le_of_ble_eq_true rfl) dX4_take_33 rfl rfl ?_
    refine J_istore X [(5, .int v3), (4, .int v2), (3, .int v1), (0, .ref (o.1 11)), (1, .ref (o.1 9)), (2, .int x2)] dX4_take_36 (Nat.le_of_ble_eq_true rfl) rfl ?_
    refine J_iload_n X 2 dX4_take_38 rfl rfl ?_
    refine J_bipush X (109 : Int32) dX4_take_39 (by decide) ?_
    refine J_icmp_ne (tgt := 56) X dX4_take_41 (by decide) (fun c41 => ?_) (fun c41 => ?_)
    · rw [if_neg c41] at hf
      refine J_iload_n X 2 dX4_take_56 rfl rfl ?_
      refine J_bipush X (112 : Int32) dX4_take_57 (by decide) ?_
      refine J_icmp_ne (tgt := 88) X dX4_take_59 (by decide) (fun c59 => ?_) (fun c59 => ?_)
      · rw [if_neg c59] at hf
        refine J_aload_n X 4 dX4_take_88 rfl rfl ?_
        refine J_iload_n X 5 dX4_take_89 rfl rfl ?_
        refine J_const X (1 : Int32) dX4_take_90 (by decide) ?_
        refine J_iadd X dX4_take_91 ?_
        obtain ⟨v4, qv4, hf⟩ := ob hf
        refine J_callV X (rest := []) (rs := [.int v4]) (c_X1_signAt l o emb A hA hB1 (x2 + (1 : Int32)) h v4 qv4) hB1.1 rfl rfl wd_330 wd_293 wd_294 wd_38 wd_295 hd_X1_signAt ⟨Nat.le_of_ble_eq_true rfl, Nat.le_of_ble_eq_true rfl⟩ ⟨Nat.zero_le _, Nat.zero_le _⟩ (Nat.le_of_ble_eq_true rfl) dX4_take_92 rfl rfl ?_
        refine J_bipush X (94 : Int32) dX4_take_95 (by decide) ?_
        refine J_icmp_ne (tgt := 112) X dX4_take_97 (by decide) (fun c97 => ?_) (fun c97 => ?_)
        · rw [if_neg c97] at hf
          refine J_aload_n X 3 dX4_take_112 rfl rfl ?_
          refine J_get X hO.1 inX4 rfl 0 (Nat.le_of_ble_eq_true rfl) wd_124 rfl (v := .ref (o.1 12)) rfl dX4_take_113 ?_
          refine J_iload_n X 2 dX4_take_116 rfl rfl ?_
          refine J_bipush X (65 : Int32) dX4_take_117 (by decide) ?_
          refine J_isub X dX4_take_119 ?_
          refine J_iload X 1 dX4_take_120 rfl ?_
          obtain ⟨t5, qt5, hf⟩ := ob hf
          refine J_callV X (rest := []) (rs := [.int t5.1]) (c_X2_walk l o emb A hA 12 hO.2 (v1 - (65 : Int32)) v2 h t5.1 t5.2 qt5) hO.2.1 rfl rfl wd_366 wd_367 wd_368 wd_35 wd_369 hd_X2_walk ⟨Nat.le_of_ble_eq_true rfl, Nat.le_of_ble_eq_true rfl⟩ ⟨Nat.zero_le _, Nat.zero_le _⟩ (Nat.le_of_ble_eq_true rfl) dX4_take_122 rfl rfl ?_
          cases hf
          exact J_iret X dX4_take_125
        · rw [if_pos c97] at hf
          refine J_aload_n X 3 dX4_take_100 rfl rfl ?_
          refine J_get X hO.1 inX4 rfl 0 (Nat.le_of_ble_eq_true rfl) wd_124 rfl (v := .ref (o.1 12)) rfl dX4_take_101 ?_
          refine J_iload_n X 2 dX4_take_104 rfl rfl ?_
          refine J_bipush X (65 : Int32) dX4_take_105 (by decide) ?_
          refine J_isub X dX4_take_107 ?_
          obtain ⟨t6, qt6, hf⟩ := ob hf
          refine J_callV X (rest := []) (rs := [.int t6.1]) (c_X2_changeIron l o emb A hA 12 hO.2 (v1 - (65 : Int32)) h t6.1 t6.2 qt6) hO.2.1 rfl rfl wd_358 wd_359 wd_360 wd_35 wd_361 hd_X2_changeIron ⟨Nat.le_of_ble_eq_true rfl, Nat.le_of_ble_eq_true rfl⟩ ⟨Nat.zero_le _, Nat.zero_le _⟩ (Nat.le_of_ble_eq_true rfl) dX4_take_108 rfl rfl ?_
          cases hf
          exact J_iret X dX4_take_111
      · rw [if_pos c59] at hf
        refine J_aload_n X 3 dX4_take_62 rfl rfl ?_
        refine J_get X hO.1 inX4 rfl 0 (Nat.le_of_ble_eq_true rfl) wd_124 rfl (v := .ref (o.1 12)) rfl dX4_take_63 ?_
        refine J_iload X 1 dX4_take_66 rfl ?_
        refine J_iload X 0 dX4_take_68 rfl ?_
        refine J_aload_n X 4 dX4_take_70 rfl rfl ?_
        refine J_iload_n X 5 dX4_take_71 rfl rfl ?_
        refine J_const X (3 : Int32) dX4_take_72 (by decide) ?_
        refine J_iadd X dX4_take_73 ?_
        obtain ⟨v7, qv7, hf⟩ := ob hf
        refine J_callV X (rest := [.int v3, .int v2, .ref (o.1 12)]) (rs := [.int v7, .int v3, .int v2, .ref (o.1 12)]) (c_X1_placeAt l o emb A hA hB1 (x2 + (3 : Int32)) h v7 qv7) hB1.1 rfl rfl wd_335 wd_303 wd_304 wd_38 wd_305 hd_X1_placeAt ⟨Nat.le_of_ble_eq_true rfl, Nat.le_of_ble_eq_true rfl⟩ ⟨Nat.zero_le _, Nat.zero_le _⟩ (Nat.le_of_ble_eq_true rfl) dX4_take_74 rfl rfl ?_
        refine J_aload_n X 4 dX4_take_77 rfl rfl ?_
        refine J_iload_n X 5 dX4_take_78 rfl rfl ?_
        refine J_const X (4 : Int32) dX4_take_79 (by decide) ?_
        refine J_iadd X dX4_take_80 ?_
        obtain ⟨v8, qv8, hf⟩ := ob hf
        refine J_callV X (rest := [.int v7, .int v3, .int v2, .ref (o.1 12)]) (rs := [.int v8, .int v7, .int v3, .int v2, .ref (o.1 12)]) (c_X1_placeAt l o emb A hA hB1 (x2 + (4 : Int32)) h v8 qv8) hB1.1 rfl rfl wd_335 wd_303 wd_304 wd_38 wd_305 hd_X1_placeAt ⟨Nat.le_of_ble_eq_true rfl, Nat.le_of_ble_eq_true rfl⟩ ⟨Nat.zero_le _, Nat.zero_le _⟩ (Nat.le_of_ble_eq_true rfl) dX4_take_81 rfl rfl ?_
        obtain ⟨t9, qt9, hf⟩ := ob hf
        refine J_callV X (rest := []) (rs := [.int t9.1]) (c_X2_patch l o emb A hA 12 hO.2 v2 v3 v7 v8 h t9.1 t9.2 qt9) hO.2.1 rfl rfl wd_345 wd_346 wd_347 wd_35 wd_348 hd_X2_patch ⟨Nat.le_of_ble_eq_true rfl, Nat.le_of_ble_eq_true rfl⟩ ⟨Nat.zero_le _, Nat.zero_le _⟩ (Nat.le_of_ble_eq_true rfl) dX4_take_84 rfl rfl ?_
        cases hf
        exact J_iret X dX4_take_87
    · rw [if_pos c41] at hf
      refine J_aload_n X 3 dX4_take_44 rfl rfl ?_
      refine J_get X hO.1 inX4 rfl 0 (Nat.le_of_ble_eq_true rfl) wd_124 rfl (v := .ref (o.1 12)) rfl dX4_take_45 ?_
      refine J_iload X 1 dX4_take_48 rfl ?_
      refine J_iload X 0 dX4_take_50 rfl ?_
      obtain ⟨t10, qt10, hf⟩ := ob hf
      refine J_callV X (rest := []) (rs := [.int t10.1]) (c_X2_bringIn l o emb A hA 12 hO.2 v2 v3 h t10.1 t10.2 qt10) hO.2.1 rfl rfl wd_336 wd_337 wd_338 wd_35 wd_339 hd_X2_bringIn ⟨Nat.le_of_ble_eq_true rfl, Nat.le_of_ble_eq_true rfl⟩ ⟨Nat.zero_le _, Nat.zero_le _⟩ (Nat.le_of_ble_eq_true rfl) dX4_take_52 rfl rfl ?_
      cases hf
      exact J_iret X dX4_take_55
  · rw [if_pos c9] at hf
    refine J_aload_n X 1 dX4_take_12 rfl rfl ?_
    refine J_get X hO.1 inX4 rfl 0 (Nat.le_of_ble_eq_true rfl) wd_124 rfl (v := .ref (o.1 12)) rfl dX4_take_13 ?_
    obtain ⟨t11, qt11, hf⟩ := ob hf
    refine J_callV X (rest := []) (rs := [.int t11.1]) (c_X2_passDay l o emb A hA 12 hO.2 h t11.1 t11.2 qt11) hO.2.1 rfl rfl wd_331 wd_332 wd_333 wd_35 wd_334 hd_X2_passDay ⟨Nat.le_of_ble_eq_true rfl, Nat.le_of_ble_eq_true rfl⟩ ⟨Nat.zero_le _, Nat.zero_le _⟩ (Nat.le_of_ble_eq_true rfl) dX4_take_16 rfl rfl ?_
    cases hf
    exact J_iret X dX4_take_19
theorem hd_X4_follow : yX4_follow.cls ≠ "java/lang/invoke/MethodHandle" ∧ yX4_follow.cls ≠ "java/lang/invoke/VarHandle" ∧ (parseMethodDescriptor yX4_follow.desc).map (fun d => d.parameters.length) = some 2 := by decide +kernel
set_option maxHeartbeats 4000000 in
set_option maxRecDepth 100000 in
theorem cf_X4_follow_l10 (hA : ∀ h : Hp, va_D A (emb h)) (X : Cx p s m args meth c RX4 cX4_follow 6 none o) (b2 : Nat) (hO : isX4 o emb) (hB1 : isX1 o emb) (hB2 : isX2 o emb b2)  {kx : Int32 → Int32 → Hp → Option Hp}  (h' : Hp) : ∀ (n : Nat) (s3 : Int32) (s4 : Int32) (h : Hp), f_X4_follow_l10 b2 kx n s3 s4 h = some h' → (∀ (s3 : Int32) (s4 : Int32) (h : Hp), kx s3 s4 h = some h' → J p l e (rmf 4 96) s m args below meth c 0 0 (MQ below (WdQ o emb A none h') args s 0 0 A) o emb A s.heap 6 102 [] [] h) → J p l e (rmf 4 96) s m args below meth c 0 0 (MQ below (WdQ o emb A none h') args s 0 0 A) o emb A s.heap 6 10 [(0, .ref (o.1 11)), (1, .ref (o.1 9)), (3, .int s3), (4, .int s4)] [] h := by
  intro n
  induction n with
  | zero =>
    intro s3 s4 h hf hk
    cases hf
  | succ n ih =>
    intro s3 s4 h hf hk
    rw [f_X4_follow_l10] at hf
    refine J_iload X 3 dX4_follow_10 rfl ?_
    refine J_bipush X (60 : Int32) dX4_follow_12 (by decide) ?_
    refine J_icmp_ge (tgt := 102) X dX4_follow_14 (by decide) (fun c14 => ?_) (fun c14 => ?_)
    · rw [if_pos c14] at hf
      exact J_sub [] rfl (hk s3 s4 h hf)
    · rw [if_neg c14] at hf
      refine J_iload_n X 2 dX4_follow_17 rfl rfl ?_
      refine J_aload_n X 1 dX4_follow_18 rfl rfl ?_
      refine J_getN X hB1.1 inX1 rfl 1 (Nat.le_of_ble_eq_true rfl) nw_109 rfl (v := .int (h.1 9 1)) rfl dX4_follow_19 ?_
      refine J_icmp_ge (tgt := 102) X dX4_follow_22 (by decide) (fun c22 => ?_) (fun c22 => ?_)
      · rw [if_pos c22] at hf
        exact J_sub [] rfl (hk s3 s4 h hf)
      · rw [if_neg c22] at hf
        refine J_aload_n X 0 dX4_follow_25 rfl rfl ?_
        refine J_aload_n X 1 dX4_follow_26 rfl rfl ?_
        refine J_iload_n X 2 dX4_follow_27 rfl rfl ?_
        obtain ⟨t2, qt2, hf⟩ := ob hf
        refine J_callV X (rest := []) (rs := [.int t2.1]) (c_X4_take l o emb A hA hO hB1 s3 h t2.1 t2.2 qt2) hO.1 rfl rfl wd_326 wd_328 wd_2 wd_39 wd_329 hd_X4_take ⟨Nat.le_of_ble_eq_true rfl, Nat.le_of_ble_eq_true rfl⟩ ⟨Nat.zero_le _, Nat.zero_le _⟩ (Nat.le_of_ble_eq_true rfl) dX4_follow_28 rfl rfl ?_
        refine J_istore X [(5, .int t2.1), (0, .ref (o.1 11)), (1, .ref (o.1 9)), (3, .int s3), (4, .int s4)] dX4_follow_31 (Nat.le_of_ble_eq_true rfl) rfl ?_
        refine J_iload X 0 dX4_follow_33 rfl ?_
        refine J_if_eq (tgt := 51) X dX4_follow_35 (by decide) (fun c35 => ?_) (fun c35 => ?_)
        · rw [if_pos c35] at hf
          refine J_aload_n X 1 dX4_follow_51 rfl rfl ?_
          refine J_get X hO.1 inX4 rfl 4 (Nat.le_of_ble_eq_true rfl) wd_132 rfl (v := .int (t2.2.1 11 4)) rfl dX4_follow_52 ?_
          refine J_bipush X (-6 : Int32) dX4_follow_55 (by decide) ?_
          obtain ⟨t4, qt4, hf⟩ := ob hf
          have yk3 : J p l e (rmf 4 96) s m args below meth c 0 0 (MQ below (WdQ o emb A none h') args s 0 0 A) o emb A s.heap 6 78 [(0, .ref (o.1 11)), (1, .ref (o.1 9)), (3, .int s3), (4, .int s4)] [] t4 := by
            refine J_aload_n X 0 dX4_follow_78 rfl rfl ?_
            refine J_dup X dX4_follow_79 rfl ?_
            refine J_get X hO.1 inX4 rfl 1 (Nat.le_of_ble_eq_true rfl) wd_126 rfl (v := .int (t4.1 11 1)) rfl dX4_follow_80 ?_
            refine J_const X (1 : Int32) dX4_follow_83 (by decide) ?_
            refine J_iadd X dX4_follow_84 ?_
            obtain ⟨h5, qh5, hf⟩ := ob hf
            refine J_put X hO.1 inX4 tyX4 tyX4_ok nmX4 rfl 1 (Nat.le_of_ble_eq_true rfl) (by decide) wd_126 rfl rfl (ty := .int) (by decide +kernel) rfl rfl (Nat.le_of_ble_eq_true rfl) dX4_follow_85 ?_
            refine J_hp h5 (Option.some.inj qh5) ?_
            refine J_iload_n X 2 dX4_follow_88 rfl rfl ?_
            refine J_aload_n X 1 dX4_follow_89 rfl rfl ?_
            refine J_iload_n X 2 dX4_follow_90 rfl rfl ?_
            obtain ⟨v6, qv6, hf⟩ := ob hf
            refine J_callV X (rest := [.int s3]) (rs := [.int v6, .int s3]) (c_X1_actLength l o emb A hA hB1 s3 h5 v6 qv6) hB1.1 rfl rfl wd_375 wd_289 wd_290 wd_38 wd_291 hd_X1_actLength ⟨Nat.le_of_ble_eq_true rfl, Nat.le_of_ble_eq_true rfl⟩ ⟨Nat.zero_le _, Nat.zero_le _⟩ (Nat.le_of_ble_eq_true rfl) dX4_follow_91 rfl rfl ?_
            refine J_iadd X dX4_follow_94 ?_
            obtain ⟨v7, qv7, hf⟩ := ob hf
            refine J_topi v7 (Option.some.inj qv7) ?_
            refine J_istore_n X [(3, .int v7), (0, .ref (o.1 11)), (1, .ref (o.1 9)), (4, .int s4)] dX4_follow_95 rfl (Nat.le_of_ble_eq_true rfl) rfl ?_
            obtain ⟨v8, qv8, hf⟩ := ob hf
            refine J_iinc X 3 [(4, .int v8), (3, .int v7), (0, .ref (o.1 11)), (1, .ref (o.1 9))] dX4_follow_96 rfl (Option.some.inj qv8) (Nat.le_of_ble_eq_true rfl) rfl ?_
            refine J_goto (tgt := 10) X dX4_follow_99 (by decide) ?_
            exact J_sub [2, 3, 1, 0] rfl (ih v7 v8 h5 hf hk)
          clear hf
          have hf := qt4
          clear qt4
          refine J_icmp_ne (tgt := 78) X dX4_follow_57 (by decide) (fun c57 => ?_) (fun c57 => ?_)
          · rw [if_neg c57] at hf
            cases hf
            exact J_sub [1, 2, 3, 4] rfl yk3
          · rw [if_pos c57] at hf
            refine J_aload_n X 1 dX4_follow_60 rfl rfl ?_
            refine J_get X hO.1 inX4 rfl 0 (Nat.le_of_ble_eq_true rfl) wd_124 rfl (v := .ref (o.1 12)) rfl dX4_follow_61 ?_
            refine J_getN X hO.2.1 inX2 rfl 4 (Nat.le_of_ble_eq_true rfl) nw_67 rfl (v := .int (t2.2.1 12 4)) rfl dX4_follow_64 ?_
            refine J_bipush X (-6 : Int32) dX4_follow_67 (by decide) ?_
            refine J_icmp_eq (tgt := 78) X dX4_follow_69 (by decide) (fun c69 => ?_) (fun c69 => ?_)
            · rw [if_pos c69] at hf
              cases hf
              exact J_sub [1, 2, 3, 4] rfl yk3
            · rw [if_neg c69] at hf
              refine J_aload_n X 1 dX4_follow_72 rfl rfl ?_
              refine J_iload X 4 dX4_follow_73 rfl ?_
              obtain ⟨h9, qh9, hf⟩ := ob hf
              refine J_put X hO.1 inX4 tyX4 tyX4_ok nmX4 rfl 4 (Nat.le_of_ble_eq_true rfl) (by decide) wd_132 rfl rfl (ty := .int) (by decide +kernel) rfl rfl (Nat.le_of_ble_eq_true rfl) dX4_follow_75 ?_
              refine J_hp h9 (Option.some.inj qh9) ?_
              cases hf
              exact J_sub [1, 2, 3, 4] rfl yk3
        · rw [if_neg c35] at hf
          refine J_aload_n X 1 dX4_follow_38 rfl rfl ?_
          refine J_iload X 4 dX4_follow_39 rfl ?_
          obtain ⟨h10, qh10, hf⟩ := ob hf
          refine J_put X hO.1 inX4 tyX4 tyX4_ok nmX4 rfl 2 (Nat.le_of_ble_eq_true rfl) (by decide) wd_128 rfl rfl (ty := .int) (by decide +kernel) rfl rfl (Nat.le_of_ble_eq_true rfl) dX4_follow_41 ?_
          refine J_hp h10 (Option.some.inj qh10) ?_
          refine J_aload_n X 1 dX4_follow_44 rfl rfl ?_
          refine J_iload X 0 dX4_follow_45 rfl ?_
          obtain ⟨h11, qh11, hf⟩ := ob hf
          refine J_put X hO.1 inX4 tyX4 tyX4_ok nmX4 rfl 3 (Nat.le_of_ble_eq_true rfl) (by decide) wd_130 rfl rfl (ty := .int) (by decide +kernel) rfl rfl (Nat.le_of_ble_eq_true rfl) dX4_follow_47 ?_
          refine J_hp h11 (Option.some.inj qh11) ?_
          cases hf
          exact J_vret X dX4_follow_50
set_option maxHeartbeats 4000000 in
set_option maxRecDepth 100000 in
theorem c_X4_follow (l : Launch) (o : Om) (emb : Hp → va_W) (A : Nat → Prop) (hA : ∀ h : Hp, va_D A (emb h)) (b2 : Nat) (hO : isX4 o emb) (hB1 : isX1 o emb) (hB2 : isX2 o emb b2) (h : Hp)  (h' : Hp) (hf : f_X4_follow b2 h = some h') : Ct l o emb A yX4_follow cX4_follow 6 none 4 96 [.ref (o.1 11), .ref (o.1 9), .ref (o.1 b2)] h none h' := by
  refine Ct.of RX4 rfl (by decide +kernel) hA (Nat.le_of_ble_eq_true rfl) (fun p e s m args below meth c X => ?_)
  refine J_sub (lo' := [(0, .ref (o.1 11)), (1, .ref (o.1 9)), (2, .ref (o.1 b2))]) [0, 1, 2] rfl ?_
  rw [f_X4_follow] at hf
  refine J_aload_n X 0 dX4_follow_0 rfl rfl ?_
  refine J_aload_n X 2 dX4_follow_1 rfl rfl ?_
  obtain ⟨h1, qh1, hf⟩ := ob hf
  refine J_callV X (rest := []) (rs := []) (c_X4_begin l o emb A hA b2 hO hB2 h h1 qh1) hO.1 rfl rfl wd_315 wd_317 wd_1 wd_39 wd_318 hd_X4_begin ⟨Nat.le_of_ble_eq_true rfl, Nat.le_of_ble_eq_true rfl⟩ ⟨Nat.zero_le _, Nat.zero_le _⟩ (Nat.le_of_ble_eq_true rfl) dX4_follow_2 rfl rfl ?_
  refine J_const X (0 : Int32) dX4_follow_5 (by decide) ?_
  refine J_istore_n X [(3, .int (0 : Int32)), (0, .ref (o.1 11)), (1, .ref (o.1 9)), (2, .ref (o.1 b2))] dX4_follow_6 rfl (Nat.le_of_ble_eq_true rfl) rfl ?_
  refine J_const X (0 : Int32) dX4_follow_7 (by decide) ?_
  refine J_istore X [(4, .int (0 : Int32)), (3, .int (0 : Int32)), (0, .ref (o.1 11)), (1, .ref (o.1 9)), (2, .ref (o.1 b2))] dX4_follow_8 (Nat.le_of_ble_eq_true rfl) rfl ?_
  refine J_sub (lo' := [(0, .ref (o.1 11)), (1, .ref (o.1 9)), (3, .int (0 : Int32)), (4, .int (0 : Int32))]) [2, 3, 1, 0] rfl ?_
  refine cf_X4_follow_l10 hA X b2 hO hB1 hB2   h' _ (0 : Int32) (0 : Int32) h1 hf (fun w12 w13 h14 hf => ?_)
  cases hf
  exact J_vret X dX4_follow_102
theorem hd_X4_takeDrawn : yX4_takeDrawn.cls ≠ "java/lang/invoke/MethodHandle" ∧ yX4_takeDrawn.cls ≠ "java/lang/invoke/VarHandle" ∧ (parseMethodDescriptor yX4_takeDrawn.desc).map (fun d => d.parameters.length) = some 1 := by decide +kernel
set_option maxHeartbeats 4000000 in
set_option maxRecDepth 100000 in
theorem c_X4_takeDrawn (l : Launch) (o : Om) (emb : Hp → va_W) (A : Nat → Prop) (hA : ∀ h : Hp, va_D A (emb h)) (hO : isX4 o emb) (x1 : Int32) (h : Hp)  (h' : Hp) (hf : f_X4_takeDrawn x1 h = some h') : Ct l o emb A yX4_takeDrawn cX4_takeDrawn 5 none 3 70 [.ref (o.1 11), .int x1] h none h' := by
  refine Ct.of RX4 rfl (by decide +kernel) hA (Nat.le_of_ble_eq_true rfl) (fun p e s m args below meth c X => ?_)
  refine J_sub (lo' := [(0, .ref (o.1 11)), (1, .int x1)]) [0, 1] rfl ?_
  rw [f_X4_takeDrawn] at hf
  refine J_iload_n X 1 dX4_takeDrawn_0 rfl rfl ?_
  refine J_bipush X (6 : Int32) dX4_takeDrawn_1 (by decide) ?_
  refine J_irem X dX4_takeDrawn_3 (by decide) ?_
  obtain ⟨v1, qv1, hf⟩ := ob hf
  refine J_topi v1 (Option.some.inj qv1) ?_
  refine J_istore_n X [(2, .int v1), (0, .ref (o.1 11)), (1, .int x1)] dX4_takeDrawn_4 rfl (Nat.le_of_ble_eq_true rfl) rfl ?_
  refine J_iload_n X 2 dX4_takeDrawn_5 rfl rfl ?_
  refine J_bipush X (6 : Int32) dX4_takeDrawn_6 (by decide) ?_
  refine J_idiv X dX4_takeDrawn_8 (by decide) ?_
  refine J_bipush X (8 : Int32) dX4_takeDrawn_9 (by decide) ?_
  refine J_irem X dX4_takeDrawn_11 (by decide) ?_
  obtain ⟨v2, qv2, hf⟩ := ob hf
  refine J_topi v2 (Option.some.inj qv2) ?_
  refine J_istore_n X [(3, .int v2), (2, .int v1), (0, .ref (o.1 11)), (1, .int x1)] dX4_takeDrawn_12 rfl (Nat.le_of_ble_eq_true rfl) rfl ?_
  refine J_iload_n X 3 dX4_takeDrawn_13 rfl rfl ?_
  refine J_bipush X (48 : Int32) dX4_takeDrawn_14 (by decide) ?_
  refine J_idiv X dX4_takeDrawn_16 (by decide) ?_
  obtain ⟨v3, qv3, hf⟩ := ob hf
  refine J_topi v3 (Option.some.inj qv3) ?_
  refine J_istore X [(4, .int v3), (3, .int v2), (2, .int v1), (0, .ref (o.1 11)), (1, .int x1)] dX4_takeDrawn_17 (Nat.le_of_ble_eq_true rfl) rfl ?_
  refine J_iload_n X 1 dX4_takeDrawn_19 rfl rfl ?_
  refine J_bipush X (7 : Int32) dX4_takeDrawn_20 (by decide) ?_
  refine J_icmp_ne (tgt := 36) X dX4_takeDrawn_22 (by decide) (fun c22 => ?_) (fun c22 => ?_)
  · rw [if_neg c22] at hf
    refine J_iload_n X 1 dX4_takeDrawn_36 rfl rfl ?_
    refine J_bipush X (6 : Int32) dX4_takeDrawn_37 (by decide) ?_
    refine J_icmp_ne (tgt := 66) X dX4_takeDrawn_39 (by decide) (fun c39 => ?_) (fun c39 => ?_)
    · rw [if_neg c39] at hf
      refine J_iload_n X 1 dX4_takeDrawn_66 rfl rfl ?_
      refine J_const X (5 : Int32) dX4_takeDrawn_67 (by decide) ?_
      refine J_icmp_ne (tgt := 83) X dX4_takeDrawn_68 (by decide) (fun c68 => ?_) (fun c68 => ?_)
      · rw [if_neg c68] at hf
        refine J_aload_n X 3 dX4_takeDrawn_83 rfl rfl ?_
        refine J_get X hO.1 inX4 rfl 0 (Nat.le_of_ble_eq_true rfl) wd_124 rfl (v := .ref (o.1 12)) rfl dX4_takeDrawn_84 ?_
        refine J_iload_n X 2 dX4_takeDrawn_87 rfl rfl ?_
        refine J_iload X 0 dX4_takeDrawn_88 rfl ?_
        refine J_bipush X (9 : Int32) dX4_takeDrawn_90 (by decide) ?_
        refine J_irem X dX4_takeDrawn_92 (by decide) ?_
        obtain ⟨t4, qt4, hf⟩ := ob hf
        refine J_callV X (rest := []) (rs := [.int t4.1]) (c_X2_walk l o emb A hA 12 hO.2 v1 (irem v3 (9 : Int32)) h t4.1 t4.2 qt4) hO.2.1 rfl rfl wd_366 wd_367 wd_368 wd_35 wd_369 hd_X2_walk ⟨Nat.le_of_ble_eq_true rfl, Nat.le_of_ble_eq_true rfl⟩ ⟨Nat.zero_le _, Nat.zero_le _⟩ (Nat.le_of_ble_eq_true rfl) dX4_takeDrawn_93 rfl rfl ?_
        refine J_pop X dX4_takeDrawn_96 rfl ?_
        cases hf
        exact J_vret X dX4_takeDrawn_97
      · rw [if_pos c68] at hf
        refine J_aload_n X 3 dX4_takeDrawn_71 rfl rfl ?_
        refine J_get X hO.1 inX4 rfl 0 (Nat.le_of_ble_eq_true rfl) wd_124 rfl (v := .ref (o.1 12)) rfl dX4_takeDrawn_72 ?_
        refine J_iload_n X 2 dX4_takeDrawn_75 rfl rfl ?_
        obtain ⟨t5, qt5, hf⟩ := ob hf
        refine J_callV X (rest := []) (rs := [.int t5.1]) (c_X2_changeIron l o emb A hA 12 hO.2 v1 h t5.1 t5.2 qt5) hO.2.1 rfl rfl wd_358 wd_359 wd_360 wd_35 wd_361 hd_X2_changeIron ⟨Nat.le_of_ble_eq_true rfl, Nat.le_of_ble_eq_true rfl⟩ ⟨Nat.zero_le _, Nat.zero_le _⟩ (Nat.le_of_ble_eq_true rfl) dX4_takeDrawn_76 rfl rfl ?_
        refine J_pop X dX4_takeDrawn_79 rfl ?_
        refine J_goto (tgt := 97) X dX4_takeDrawn_80 (by decide) ?_
        cases hf
        exact J_vret X dX4_takeDrawn_97
    · rw [if_pos c39] at hf
      refine J_aload_n X 3 dX4_takeDrawn_42 rfl rfl ?_
      refine J_get X hO.1 inX4 rfl 0 (Nat.le_of_ble_eq_true rfl) wd_124 rfl (v := .ref (o.1 12)) rfl dX4_takeDrawn_43 ?_
      refine J_iload X 0 dX4_takeDrawn_46 rfl ?_
      refine J_bipush X (9 : Int32) dX4_takeDrawn_48 (by decide) ?_
      refine J_irem X dX4_takeDrawn_50 (by decide) ?_
      refine J_iload X 0 dX4_takeDrawn_51 rfl ?_
      refine J_bipush X (9 : Int32) dX4_takeDrawn_53 (by decide) ?_
      refine J_idiv X dX4_takeDrawn_55 (by decide) ?_
      refine J_bipush X (9 : Int32) dX4_takeDrawn_56 (by decide) ?_
      refine J_irem X dX4_takeDrawn_58 (by decide) ?_
      obtain ⟨t6, qt6, hf⟩ := ob hf
      refine J_callV X (rest := []) (rs := [.int t6.1]) (c_X2_bringIn l o emb A hA 12 hO.2 (irem v3 (9 : Int32)) (irem (v3 / (9 : Int32)) (9 : Int32)) h t6.1 t6.2 qt6) hO.2.1 rfl rfl wd_336 wd_337 wd_338 wd_35 wd_339 hd_X2_bringIn ⟨Nat.le_of_ble_eq_true rfl, Nat.le_of_ble_eq_true rfl⟩ ⟨Nat.zero_le _, Nat.zero_le _⟩ (Nat.le_of_ble_eq_true rfl) dX4_takeDrawn_59 rfl rfl ?_
      refine J_pop X dX4_takeDrawn_62 rfl ?_
      refine J_goto (tgt := 97) X dX4_takeDrawn_63 (by decide) ?_
      cases hf
      exact J_vret X dX4_takeDrawn_97
  · rw [if_pos c22] at hf
    refine J_aload_n X 3 dX4_takeDrawn_25 rfl rfl ?_
    refine J_get X hO.1 inX4 rfl 0 (Nat.le_of_ble_eq_true rfl) wd_124 rfl (v := .ref (o.1 12)) rfl dX4_takeDrawn_26 ?_
    obtain ⟨t7, qt7, hf⟩ := ob hf
    refine J_callV X (rest := []) (rs := [.int t7.1]) (c_X2_passDay l o emb A hA 12 hO.2 h t7.1 t7.2 qt7) hO.2.1 rfl rfl wd_331 wd_332 wd_333 wd_35 wd_334 hd_X2_passDay ⟨Nat.le_of_ble_eq_true rfl, Nat.le_of_ble_eq_true rfl⟩ ⟨Nat.zero_le _, Nat.zero_le _⟩ (Nat.le_of_ble_eq_true rfl) dX4_takeDrawn_29 rfl rfl ?_
    refine J_pop X dX4_takeDrawn_32 rfl ?_
    refine J_goto (tgt := 97) X dX4_takeDrawn_33 (by decide) ?_
    cases hf
    exact J_vret X dX4_takeDrawn_97
theorem hd_X4_followDraws : yX4_followDraws.cls ≠ "java/lang/invoke/MethodHandle" ∧ yX4_followDraws.cls ≠ "java/lang/invoke/VarHandle" ∧ (parseMethodDescriptor yX4_followDraws.desc).map (fun d => d.parameters.length) = some 3 := by decide +kernel
set_option maxHeartbeats 4000000 in
set_option maxRecDepth 100000 in
theorem cf_X4_followDraws_l11 {R : Type} (hA : ∀ h : Hp, va_D A (emb h)) (X : Cx p s m args meth c RX4 cX4_followDraws 6 none o) (b3 : Nat) (hO : isX4 o emb) (hB3 : isX2 o emb b3) (s2 : Int32) {kx : Int32 → Int32 → Hp → Option R} (t : R) : ∀ (n : Nat) (s4 : Int32) (s5 : Int32) (h : Hp), f_X4_followDraws_l11 b3 s2 kx n s4 s5 h = some t → (∀ (s4 : Int32) (s5 : Int32) (h : Hp), kx s4 s5 h = some t → J p l e (rmf 4 94) s m args below meth c 0 0 Z o emb A H0 6 42 [] [] h) → J p l e (rmf 4 94) s m args below meth c 0 0 Z o emb A H0 6 11 [(0, .ref (o.1 11)), (2, .int s2), (4, .int s4), (5, .int s5)] [] h := by
  intro n
  induction n with
  | zero =>
    intro s4 s5 h hf hk
    cases hf
  | succ n ih =>
    intro s4 s5 h hf hk
    rw [f_X4_followDraws_l11] at hf
    refine J_iload X 3 dX4_followDraws_11 rfl ?_
    refine J_iload_n X 1 dX4_followDraws_13 rfl rfl ?_
    refine J_icmp_ge (tgt := 42) X dX4_followDraws_14 (by decide) (fun c14 => ?_) (fun c14 => ?_)
    · rw [if_pos c14] at hf
      exact J_sub [] rfl (hk s4 s5 h hf)
    · rw [if_neg c14] at hf
      refine J_bipush X (75 : Int32) dX4_followDraws_17 (by decide) ?_
      refine J_iload X 2 dX4_followDraws_19 rfl ?_
      refine J_imul X dX4_followDraws_21 ?_
      refine J_bipush X (74 : Int32) dX4_followDraws_22 (by decide) ?_
      refine J_iadd X dX4_followDraws_24 ?_
      refine J_ldc X wd_558 dX4_followDraws_25 ?_
      refine J_irem X dX4_followDraws_27 (by decide) ?_
      obtain ⟨v2, qv2, hf⟩ := ob hf
      refine J_topi v2 (Option.some.inj qv2) ?_
      refine J_istore X [(4, .int v2), (0, .ref (o.1 11)), (2, .int s2), (5, .int s5)] dX4_followDraws_28 (Nat.le_of_ble_eq_true rfl) rfl ?_
      refine J_aload_n X 1 dX4_followDraws_30 rfl rfl ?_
      refine J_iload X 0 dX4_followDraws_31 rfl ?_
      obtain ⟨h3, qh3, hf⟩ := ob hf
      refine J_callV X (rest := []) (rs := []) (c_X4_takeDrawn l o emb A hA hO v2 h h3 qh3) hO.1 rfl rfl wd_559 wd_561 wd_13 wd_39 wd_562 hd_X4_takeDrawn ⟨Nat.le_of_ble_eq_true rfl, Nat.le_of_ble_eq_true rfl⟩ ⟨Nat.zero_le _, Nat.zero_le _⟩ (Nat.le_of_ble_eq_true rfl) dX4_followDraws_33 rfl rfl ?_
      obtain ⟨v4, qv4, hf⟩ := ob hf
      refine J_iinc X 3 [(5, .int v4), (4, .int v2), (0, .ref (o.1 11)), (2, .int s2)] dX4_followDraws_36 rfl (Option.some.inj qv4) (Nat.le_of_ble_eq_true rfl) rfl ?_
      refine J_goto (tgt := 11) X dX4_followDraws_39 (by decide) ?_
      exact J_sub [2, 3, 1, 0] rfl (ih v2 v4 h3 hf hk)
set_option maxHeartbeats 4000000 in
set_option maxRecDepth 100000 in
theorem c_X4_followDraws (l : Launch) (o : Om) (emb : Hp → va_W) (A : Nat → Prop) (hA : ∀ h : Hp, va_D A (emb h)) (b3 : Nat) (hO : isX4 o emb) (hB3 : isX2 o emb b3) (x1 : Int32) (x2 : Int32) (h : Hp)  (h' : Hp) (hf : f_X4_followDraws x1 x2 b3 h = some h') : Ct l o emb A yX4_followDraws cX4_followDraws 6 none 4 94 [.ref (o.1 11), .int x1, .int x2, .ref (o.1 b3)] h none h' := by
  refine Ct.of RX4 rfl (by decide +kernel) hA (Nat.le_of_ble_eq_true rfl) (fun p e s m args below meth c X => ?_)
  refine J_sub (lo' := [(0, .ref (o.1 11)), (1, .int x1), (2, .int x2), (3, .ref (o.1 b3))]) [0, 1, 2, 3] rfl ?_
  rw [f_X4_followDraws] at hf
  refine J_aload_n X 0 dX4_followDraws_0 rfl rfl ?_
  refine J_aload_n X 3 dX4_followDraws_1 rfl rfl ?_
  obtain ⟨h1, qh1, hf⟩ := ob hf
  refine J_callV X (rest := []) (rs := []) (c_X4_begin l o emb A hA b3 hO hB3 h h1 qh1) hO.1 rfl rfl wd_315 wd_317 wd_1 wd_39 wd_318 hd_X4_begin ⟨Nat.le_of_ble_eq_true rfl, Nat.le_of_ble_eq_true rfl⟩ ⟨Nat.zero_le _, Nat.zero_le _⟩ (Nat.le_of_ble_eq_true rfl) dX4_followDraws_2 rfl rfl ?_
  refine J_iload_n X 1 dX4_followDraws_5 rfl rfl ?_
  refine J_istore X [(4, .int x1), (0, .ref (o.1 11)), (1, .int x1), (2, .int x2), (3, .ref (o.1 b3))] dX4_followDraws_6 (Nat.le_of_ble_eq_true rfl) rfl ?_
  refine J_const X (0 : Int32) dX4_followDraws_8 (by decide) ?_
  refine J_istore X [(5, .int (0 : Int32)), (4, .int x1), (0, .ref (o.1 11)), (1, .int x1), (2, .int x2), (3, .ref (o.1 b3))] dX4_followDraws_9 (Nat.le_of_ble_eq_true rfl) rfl ?_
  refine J_sub (lo' := [(0, .ref (o.1 11)), (2, .int x2), (4, .int x1), (5, .int (0 : Int32))]) [2, 4, 1, 0] rfl ?_
  refine cf_X4_followDraws_l11 hA X b3 hO hB3 x2 _ _ x1 (0 : Int32) h1 hf (fun w5 w6 h7 hf => ?_)
  cases hf
  exact J_vret X dX4_followDraws_42
theorem hd_X5_road : yX5_road.cls ≠ "java/lang/invoke/MethodHandle" ∧ yX5_road.cls ≠ "java/lang/invoke/VarHandle" ∧ (parseMethodDescriptor yX5_road.desc).map (fun d => d.parameters.length) = some 3 := by decide +kernel
set_option maxHeartbeats 4000000 in
set_option maxRecDepth 100000 in
theorem c_X5_road (l : Launch) (o : Om) (emb : Hp → va_W) (A : Nat → Prop) (hA : ∀ h : Hp, va_D A (emb h)) (hO : isX5 o emb) (x1 : Int32) (x2 : Int32) (x3 : Int32) (h : Hp) (r : Int32) (h' : Hp) (hf : f_X5_road x1 x2 x3 h = some (r, h')) : Ct l o emb A yX5_road cX5_road 4 (some .int) 2 45 [.ref (o.1 0), .int x1, .int x2, .int x3] h (some (.int r)) h' := by
  refine Ct.of RX5 rfl (by decide +kernel) hA (Nat.le_of_ble_eq_true rfl) (fun p e s m args below meth c X => ?_)
  refine J_sub (lo' := [(0, .ref (o.1 0)), (1, .int x1), (2, .int x2), (3, .int x3)]) [0, 1, 2, 3] rfl ?_
  rw [f_X5_road] at hf
  refine J_iload_n X 1 dX5_road_0 rfl rfl ?_
  refine J_iload_n X 2 dX5_road_1 rfl rfl ?_
  obtain ⟨v1, qv1, hf⟩ := ob hf
  refine J_callS X (rest := []) (rs := [.int v1]) (c_X5_areTwoPlaces l o emb A hA x1 x2 h v1 qv1) wd_213 wd_214 wd_34 wd_215 hd_X5_areTwoPlaces ⟨Nat.le_of_ble_eq_true rfl, Nat.le_of_ble_eq_true rfl⟩ ⟨Nat.zero_le _, Nat.zero_le _⟩ (Nat.le_of_ble_eq_true rfl) dX5_road_2 rfl rfl ?_
  refine J_if_ne (tgt := 10) X dX5_road_5 (by decide) (fun c5 => ?_) (fun c5 => ?_)
  · rw [if_neg c5] at hf
    refine J_iload_n X 3 dX5_road_10 rfl rfl ?_
    refine J_const X (-1 : Int32) dX5_road_11 (by decide) ?_
    refine J_bipush X (9 : Int32) dX5_road_12 (by decide) ?_
    obtain ⟨v2, qv2, hf⟩ := ob hf
    refine J_callS X (rest := []) (rs := [.int v2]) (c_X5_within l o emb A hA x3 (-1 : Int32) (9 : Int32) h v2 qv2) wd_216 wd_217 wd_34 wd_218 hd_X5_within ⟨Nat.le_of_ble_eq_true rfl, Nat.le_of_ble_eq_true rfl⟩ ⟨Nat.zero_le _, Nat.zero_le _⟩ (Nat.le_of_ble_eq_true rfl) dX5_road_14 rfl rfl ?_
    refine J_if_ne (tgt := 23) X dX5_road_17 (by decide) (fun c17 => ?_) (fun c17 => ?_)
    · rw [if_neg c17] at hf
      refine J_aload_n X 0 dX5_road_23 rfl rfl ?_
      refine J_get X hO.1 inX5 rfl 0 (Nat.le_of_ble_eq_true rfl) wd_168 rfl (v := .ref (o.1 1)) rfl dX5_road_24 ?_
      refine J_iload_n X 1 dX5_road_27 rfl rfl ?_
      refine J_iload_n X 2 dX5_road_28 rfl rfl ?_
      refine J_iload_n X 3 dX5_road_29 rfl rfl ?_
      obtain ⟨t4, qt4, hf⟩ := ob hf
      have yk3 : J p l e (rmf 2 45) s m args below meth c 0 0 (MQ below (WdQ o emb A (some (.int r)) h') args s 0 0 A) o emb A s.heap 4 39 [(0, .ref (o.1 0))] [.int t4, .int x2, .int x1, .ref (o.1 1)] h := by
        obtain ⟨h5, qh5, hf⟩ := ob hf
        refine J_callV X (rest := []) (rs := []) (c_X2_putRoad l o emb A hA 1 hO.2.1 x1 x2 t4 h h5 qh5) hO.2.1.1 rfl rfl wd_219 wd_220 wd_221 wd_35 wd_222 hd_X2_putRoad ⟨Nat.le_of_ble_eq_true rfl, Nat.le_of_ble_eq_true rfl⟩ ⟨Nat.zero_le _, Nat.zero_le _⟩ (Nat.le_of_ble_eq_true rfl) dX5_road_39 rfl rfl ?_
        refine J_aload_n X 0 dX5_road_42 rfl rfl ?_
        refine J_get X hO.1 inX5 rfl 0 (Nat.le_of_ble_eq_true rfl) wd_168 rfl (v := .ref (o.1 1)) rfl dX5_road_43 ?_
        obtain ⟨v6, qv6, hf⟩ := ob hf
        refine J_callV X (rest := []) (rs := [.int v6]) (c_X2_countRoads l o emb A hA 1 hO.2.1 h5 v6 qv6) hO.2.1.1 rfl rfl wd_227 wd_228 wd_229 wd_35 wd_230 hd_X2_countRoads ⟨Nat.le_of_ble_eq_true rfl, Nat.le_of_ble_eq_true rfl⟩ ⟨Nat.zero_le _, Nat.zero_le _⟩ (Nat.le_of_ble_eq_true rfl) dX5_road_46 rfl rfl ?_
        cases hf
        exact J_iret X dX5_road_49
      clear hf
      have hf := qt4
      clear qt4
      refine J_if_ge (tgt := 38) X dX5_road_30 (by decide) (fun c30 => ?_) (fun c30 => ?_)
      · rw [if_pos c30] at hf
        refine J_iload_n X 3 dX5_road_38 rfl rfl ?_
        cases hf
        exact J_sub [0] rfl yk3
      · rw [if_neg c30] at hf
        refine J_bipush X (-6 : Int32) dX5_road_33 (by decide) ?_
        refine J_goto (tgt := 39) X dX5_road_35 (by decide) ?_
        cases hf
        exact J_sub [0] rfl yk3
    · rw [if_pos c17] at hf
      refine J_bipush X (-2 : Int32) dX5_road_20 (by decide) ?_
      cases hf
      exact J_iret X dX5_road_22
  · rw [if_pos c5] at hf
    refine J_const X (-1 : Int32) dX5_road_8 (by decide) ?_
    cases hf
    exact J_iret X dX5_road_9
theorem hd_X5_walker : yX5_walker.cls ≠ "java/lang/invoke/MethodHandle" ∧ yX5_walker.cls ≠ "java/lang/invoke/VarHandle" ∧ (parseMethodDescriptor yX5_walker.desc).map (fun d => d.parameters.length) = some 3 := by decide +kernel
set_option maxHeartbeats 4000000 in
set_option maxRecDepth 100000 in
theorem c_X5_walker (l : Launch) (o : Om) (emb : Hp → va_W) (A : Nat → Prop) (hA : ∀ h : Hp, va_D A (emb h)) (hO : isX5 o emb) (x1 : Int32) (x2 : Int32) (x3 : Int32) (h : Hp) (r : Int32) (h' : Hp) (hf : f_X5_walker x1 x2 x3 h = some (r, h')) : Ct l o emb A yX5_walker cX5_walker 4 (some .int) 3 64 [.ref (o.1 0), .int x1, .int x2, .int x3] h (some (.int r)) h' := by
  refine Ct.of RX5 rfl (by decide +kernel) hA (Nat.le_of_ble_eq_true rfl) (fun p e s m args below meth c X => ?_)
  refine J_sub (lo' := [(0, .ref (o.1 0)), (1, .int x1), (2, .int x2), (3, .int x3)]) [0, 1, 2, 3] rfl ?_
  rw [f_X5_walker] at hf
  refine J_iload_n X 1 dX5_walker_0 rfl rfl ?_
  obtain ⟨v1, qv1, hf⟩ := ob hf
  refine J_callS X (rest := []) (rs := [.int v1]) (c_X5_isWalker l o emb A hA x1 h v1 qv1) wd_235 wd_236 wd_34 wd_237 hd_X5_isWalker ⟨Nat.le_of_ble_eq_true rfl, Nat.le_of_ble_eq_true rfl⟩ ⟨Nat.zero_le _, Nat.zero_le _⟩ (Nat.le_of_ble_eq_true rfl) dX5_walker_1 rfl rfl ?_
  refine J_if_eq (tgt := 14) X dX5_walker_4 (by decide) (fun c4 => ?_) (fun c4 => ?_)
  · rw [if_pos c4] at hf
    refine J_const X (-1 : Int32) dX5_walker_14 (by decide) ?_
    cases hf
    exact J_iret X dX5_walker_15
  · rw [if_neg c4] at hf
    refine J_iload_n X 2 dX5_walker_7 rfl rfl ?_
    obtain ⟨v2, qv2, hf⟩ := ob hf
    refine J_callS X (rest := []) (rs := [.int v2]) (c_X5_isPlace l o emb A hA x2 h v2 qv2) wd_238 wd_239 wd_34 wd_240 hd_X5_isPlace ⟨Nat.le_of_ble_eq_true rfl, Nat.le_of_ble_eq_true rfl⟩ ⟨Nat.zero_le _, Nat.zero_le _⟩ (Nat.le_of_ble_eq_true rfl) dX5_walker_8 rfl rfl ?_
    refine J_if_ne (tgt := 16) X dX5_walker_11 (by decide) (fun c11 => ?_) (fun c11 => ?_)
    · rw [if_neg c11] at hf
      refine J_aload_n X 0 dX5_walker_16 rfl rfl ?_
      refine J_get X hO.1 inX5 rfl 0 (Nat.le_of_ble_eq_true rfl) wd_168 rfl (v := .ref (o.1 1)) rfl dX5_walker_17 ?_
      refine J_iload_n X 1 dX5_walker_20 rfl rfl ?_
      refine J_iload_n X 2 dX5_walker_21 rfl rfl ?_
      refine J_iload_n X 3 dX5_walker_22 rfl rfl ?_
      obtain ⟨h3, qh3, hf⟩ := ob hf
      refine J_callV X (rest := []) (rs := []) (c_X2_putWalker l o emb A hA 1 hO.2.1 x1 x2 x3 h h3 qh3) hO.2.1.1 rfl rfl wd_241 wd_242 wd_243 wd_35 wd_244 hd_X2_putWalker ⟨Nat.le_of_ble_eq_true rfl, Nat.le_of_ble_eq_true rfl⟩ ⟨Nat.zero_le _, Nat.zero_le _⟩ (Nat.le_of_ble_eq_true rfl) dX5_walker_23 rfl rfl ?_
      refine J_aload_n X 0 dX5_walker_26 rfl rfl ?_
      refine J_get X hO.1 inX5 rfl 0 (Nat.le_of_ble_eq_true rfl) wd_168 rfl (v := .ref (o.1 1)) rfl dX5_walker_27 ?_
      obtain ⟨v4, qv4, hf⟩ := ob hf
      refine J_callV X (rest := []) (rs := [.int v4]) (c_X2_walkersThere l o emb A hA 1 hO.2.1 h3 v4 qv4) hO.2.1.1 rfl rfl wd_245 wd_246 wd_247 wd_35 wd_248 hd_X2_walkersThere ⟨Nat.le_of_ble_eq_true rfl, Nat.le_of_ble_eq_true rfl⟩ ⟨Nat.zero_le _, Nat.zero_le _⟩ (Nat.le_of_ble_eq_true rfl) dX5_walker_30 rfl rfl ?_
      obtain ⟨v5, qv5, hf⟩ := ob hf
      refine J_callS X (rest := []) (rs := [.int v5]) (c_J6_bitCount_0f7a4 l o emb A hA v4 h3 v5 qv5) wd_257 wd_258 wd_42 wd_259 hd_J6_bitCount_0f7a4 ⟨Nat.le_of_ble_eq_true rfl, Nat.le_of_ble_eq_true rfl⟩ ⟨Nat.zero_le _, Nat.zero_le _⟩ (Nat.le_of_ble_eq_true rfl) dX5_walker_33 rfl rfl ?_
      cases hf
      exact J_iret X dX5_walker_36
    · rw [if_pos c11] at hf
      refine J_const X (-1 : Int32) dX5_walker_14 (by decide) ?_
      cases hf
      exact J_iret X dX5_walker_15
theorem hd_X5_say : yX5_say.cls ≠ "java/lang/invoke/MethodHandle" ∧ yX5_say.cls ≠ "java/lang/invoke/VarHandle" ∧ (parseMethodDescriptor yX5_say.desc).map (fun d => d.parameters.length) = some 1 := by decide +kernel
set_option maxHeartbeats 4000000 in
set_option maxRecDepth 100000 in
theorem c_X5_say (l : Launch) (o : Om) (emb : Hp → va_W) (A : Nat → Prop) (hA : ∀ h : Hp, va_D A (emb h)) (hO : isX5 o emb) (x1 : Int32) (h : Hp) (r : Int32) (h' : Hp) (hf : f_X5_say x1 h = some (r, h')) : Ct l o emb A yX5_say cX5_say 2 (some .int) 2 43 [.ref (o.1 0), .int x1] h (some (.int r)) h' := by
  refine Ct.of RX5 rfl (by decide +kernel) hA (Nat.le_of_ble_eq_true rfl) (fun p e s m args below meth c X => ?_)
  refine J_sub (lo' := [(0, .ref (o.1 0)), (1, .int x1)]) [0, 1] rfl ?_
  rw [f_X5_say] at hf
  refine J_iload_n X 1 dX5_say_0 rfl rfl ?_
  refine J_bipush X (33 : Int32) dX5_say_1 (by decide) ?_
  refine J_bipush X (126 : Int32) dX5_say_3 (by decide) ?_
  obtain ⟨v1, qv1, hf⟩ := ob hf
  refine J_callS X (rest := []) (rs := [.int v1]) (c_X5_within l o emb A hA x1 (33 : Int32) (126 : Int32) h v1 qv1) wd_216 wd_217 wd_34 wd_218 hd_X5_within ⟨Nat.le_of_ble_eq_true rfl, Nat.le_of_ble_eq_true rfl⟩ ⟨Nat.zero_le _, Nat.zero_le _⟩ (Nat.le_of_ble_eq_true rfl) dX5_say_5 rfl rfl ?_
  refine J_if_ne (tgt := 14) X dX5_say_8 (by decide) (fun c8 => ?_) (fun c8 => ?_)
  · rw [if_neg c8] at hf
    refine J_aload_n X 0 dX5_say_14 rfl rfl ?_
    refine J_get X hO.1 inX5 rfl 2 (Nat.le_of_ble_eq_true rfl) wd_170 rfl (v := .ref (o.1 9)) rfl dX5_say_15 ?_
    refine J_getN X hO.2.2.2.1.1 inX1 rfl 1 (Nat.le_of_ble_eq_true rfl) nw_110 rfl (v := .int (h.1 9 1)) rfl dX5_say_18 ?_
    refine J_bipush X (60 : Int32) dX5_say_21 (by decide) ?_
    refine J_icmp_lt (tgt := 29) X dX5_say_23 (by decide) (fun c23 => ?_) (fun c23 => ?_)
    · rw [if_pos c23] at hf
      refine J_aload_n X 0 dX5_say_29 rfl rfl ?_
      refine J_get X hO.1 inX5 rfl 2 (Nat.le_of_ble_eq_true rfl) wd_170 rfl (v := .ref (o.1 9)) rfl dX5_say_30 ?_
      refine J_iload_n X 1 dX5_say_33 rfl rfl ?_
      obtain ⟨h2, qh2, hf⟩ := ob hf
      refine J_callV X (rest := []) (rs := []) (c_X1_add l o emb A hA hO.2.2.2.1 x1 h h2 qh2) hO.2.2.2.1.1 rfl rfl wd_267 wd_268 wd_269 wd_38 wd_270 hd_X1_add ⟨Nat.le_of_ble_eq_true rfl, Nat.le_of_ble_eq_true rfl⟩ ⟨Nat.zero_le _, Nat.zero_le _⟩ (Nat.le_of_ble_eq_true rfl) dX5_say_34 rfl rfl ?_
      refine J_aload_n X 0 dX5_say_37 rfl rfl ?_
      refine J_get X hO.1 inX5 rfl 2 (Nat.le_of_ble_eq_true rfl) wd_170 rfl (v := .ref (o.1 9)) rfl dX5_say_38 ?_
      refine J_getN X hO.2.2.2.1.1 inX1 rfl 1 (Nat.le_of_ble_eq_true rfl) nw_110 rfl (v := .int (h2.1 9 1)) rfl dX5_say_41 ?_
      cases hf
      exact J_iret X dX5_say_44
    · rw [if_neg c23] at hf
      refine J_bipush X (-4 : Int32) dX5_say_26 (by decide) ?_
      cases hf
      exact J_iret X dX5_say_28
  · rw [if_pos c8] at hf
    refine J_bipush X (-2 : Int32) dX5_say_11 (by decide) ?_
    cases hf
    exact J_iret X dX5_say_13
theorem hd_X5_wipe : yX5_wipe.cls ≠ "java/lang/invoke/MethodHandle" ∧ yX5_wipe.cls ≠ "java/lang/invoke/VarHandle" ∧ (parseMethodDescriptor yX5_wipe.desc).map (fun d => d.parameters.length) = some 0 := by decide +kernel
set_option maxHeartbeats 4000000 in
set_option maxRecDepth 100000 in
theorem c_X5_wipe (l : Launch) (o : Om) (emb : Hp → va_W) (A : Nat → Prop) (hA : ∀ h : Hp, va_D A (emb h)) (hO : isX5 o emb) (h : Hp) (r : Int32) (h' : Hp) (hf : f_X5_wipe h = some (r, h')) : Ct l o emb A yX5_wipe cX5_wipe 2 (some .int) 1 20 [.ref (o.1 0)] h (some (.int r)) h' := by
  refine Ct.of RX5 rfl (by decide +kernel) hA (Nat.le_of_ble_eq_true rfl) (fun p e s m args below meth c X => ?_)
  refine J_sub (lo' := [(0, .ref (o.1 0))]) [0] rfl ?_
  rw [f_X5_wipe] at hf
  refine J_aload_n X 0 dX5_wipe_0 rfl rfl ?_
  refine J_get X hO.1 inX5 rfl 2 (Nat.le_of_ble_eq_true rfl) wd_170 rfl (v := .ref (o.1 9)) rfl dX5_wipe_1 ?_
  refine J_getN X hO.2.2.2.1.1 inX1 rfl 1 (Nat.le_of_ble_eq_true rfl) nw_110 rfl (v := .int (h.1 9 1)) rfl dX5_wipe_4 ?_
  obtain ⟨v1, qv1, hf⟩ := ob hf
  refine J_topi v1 (Option.some.inj qv1) ?_
  refine J_istore_n X [(1, .int v1), (0, .ref (o.1 0))] dX5_wipe_7 rfl (Nat.le_of_ble_eq_true rfl) rfl ?_
  refine J_aload_n X 1 dX5_wipe_8 rfl rfl ?_
  refine J_get X hO.1 inX5 rfl 2 (Nat.le_of_ble_eq_true rfl) wd_170 rfl (v := .ref (o.1 9)) rfl dX5_wipe_9 ?_
  obtain ⟨h2, qh2, hf⟩ := ob hf
  refine J_callV X (rest := []) (rs := []) (c_X1_empty l o emb A hA hO.2.2.2.1 h h2 qh2) hO.2.2.2.1.1 rfl rfl wd_276 wd_277 wd_278 wd_38 wd_279 hd_X1_empty ⟨Nat.le_of_ble_eq_true rfl, Nat.le_of_ble_eq_true rfl⟩ ⟨Nat.zero_le _, Nat.zero_le _⟩ (Nat.le_of_ble_eq_true rfl) dX5_wipe_12 rfl rfl ?_
  refine J_iload_n X 0 dX5_wipe_15 rfl rfl ?_
  cases hf
  exact J_iret X dX5_wipe_16
theorem hd_X5_fault : yX5_fault.cls ≠ "java/lang/invoke/MethodHandle" ∧ yX5_fault.cls ≠ "java/lang/invoke/VarHandle" ∧ (parseMethodDescriptor yX5_fault.desc).map (fun d => d.parameters.length) = some 0 := by decide +kernel
set_option maxHeartbeats 4000000 in
set_option maxRecDepth 100000 in
theorem c_X5_fault (l : Launch) (o : Om) (emb : Hp → va_W) (A : Nat → Prop) (hA : ∀ h : Hp, va_D A (emb h)) (hO : isX5 o emb) (h : Hp) (r : Int32) (hf : f_X5_fault h = some r) : Ct l o emb A yX5_fault cX5_fault 1 (some .int) 5 111 [.ref (o.1 0)] h (some (.int r)) h := by
  refine Ct.of RX5 rfl (by decide +kernel) hA (Nat.le_of_ble_eq_true rfl) (fun p e s m args below meth c X => ?_)
  refine J_sub (lo' := [(0, .ref (o.1 0))]) [0] rfl ?_
  rw [f_X5_fault] at hf
  refine J_aload_n X 0 dX5_fault_0 rfl rfl ?_
  refine J_get X hO.1 inX5 rfl 2 (Nat.le_of_ble_eq_true rfl) wd_170 rfl (v := .ref (o.1 9)) rfl dX5_fault_1 ?_
  obtain ⟨v1, qv1, hf⟩ := ob hf
  refine J_callV X (rest := []) (rs := [.int v1]) (c_X1_faultPlace l o emb A hA hO.2.2.2.1 h v1 qv1) hO.2.2.2.1.1 rfl rfl wd_284 wd_285 wd_286 wd_38 wd_287 hd_X1_faultPlace ⟨Nat.le_of_ble_eq_true rfl, Nat.le_of_ble_eq_true rfl⟩ ⟨Nat.zero_le _, Nat.zero_le _⟩ (Nat.le_of_ble_eq_true rfl) dX5_fault_4 rfl rfl ?_
  cases hf
  exact J_iret X dX5_fault_7
theorem hd_X5_judge : yX5_judge.cls ≠ "java/lang/invoke/MethodHandle" ∧ yX5_judge.cls ≠ "java/lang/invoke/VarHandle" ∧ (parseMethodDescriptor yX5_judge.desc).map (fun d => d.parameters.length) = some 1 := by decide +kernel
set_option maxHeartbeats 4000000 in
set_option maxRecDepth 100000 in
theorem c_X5_judge (l : Launch) (o : Om) (emb : Hp → va_W) (A : Nat → Prop) (hA : ∀ h : Hp, va_D A (emb h)) (hO : isX5 o emb) (x1 : Int32) (h : Hp) (r : Int32) (h' : Hp) (hf : f_X5_judge x1 h = some (r, h')) : Ct l o emb A yX5_judge cX5_judge 2 (some .int) 5 121 [.ref (o.1 0), .int x1] h (some (.int r)) h' := by
  refine Ct.of RX5 rfl (by decide +kernel) hA (Nat.le_of_ble_eq_true rfl) (fun p e s m args below meth c X => ?_)
  refine J_sub (lo' := [(0, .ref (o.1 0)), (1, .int x1)]) [0, 1] rfl ?_
  rw [f_X5_judge] at hf
  refine J_iload_n X 1 dX5_judge_0 rfl rfl ?_
  refine J_const X (0 : Int32) dX5_judge_1 (by decide) ?_
  refine J_const X (1 : Int32) dX5_judge_2 (by decide) ?_
  obtain ⟨v1, qv1, hf⟩ := ob hf
  refine J_callS X (rest := []) (rs := [.int v1]) (c_X5_within l o emb A hA x1 (0 : Int32) (1 : Int32) h v1 qv1) wd_216 wd_217 wd_34 wd_218 hd_X5_within ⟨Nat.le_of_ble_eq_true rfl, Nat.le_of_ble_eq_true rfl⟩ ⟨Nat.zero_le _, Nat.zero_le _⟩ (Nat.le_of_ble_eq_true rfl) dX5_judge_3 rfl rfl ?_
  refine J_if_ne (tgt := 12) X dX5_judge_6 (by decide) (fun c6 => ?_) (fun c6 => ?_)
  · rw [if_neg c6] at hf
    refine J_aload_n X 0 dX5_judge_12 rfl rfl ?_
    refine J_get X hO.1 inX5 rfl 2 (Nat.le_of_ble_eq_true rfl) wd_170 rfl (v := .ref (o.1 9)) rfl dX5_judge_13 ?_
    obtain ⟨v2, qv2, hf⟩ := ob hf
    refine J_callV X (rest := []) (rs := [.int v2]) (c_X1_faultPlace l o emb A hA hO.2.2.2.1 h v2 qv2) hO.2.2.2.1.1 rfl rfl wd_284 wd_285 wd_286 wd_38 wd_287 hd_X1_faultPlace ⟨Nat.le_of_ble_eq_true rfl, Nat.le_of_ble_eq_true rfl⟩ ⟨Nat.zero_le _, Nat.zero_le _⟩ (Nat.le_of_ble_eq_true rfl) dX5_judge_16 rfl rfl ?_
    refine J_bipush X (-6 : Int32) dX5_judge_19 (by decide) ?_
    refine J_icmp_eq (tgt := 27) X dX5_judge_21 (by decide) (fun c21 => ?_) (fun c21 => ?_)
    · rw [if_pos c21] at hf
      refine J_aload_n X 0 dX5_judge_27 rfl rfl ?_
      refine J_get X hO.1 inX5 rfl 3 (Nat.le_of_ble_eq_true rfl) wd_171 rfl (v := .ref (o.1 11)) rfl dX5_judge_28 ?_
      refine J_aload_n X 0 dX5_judge_31 rfl rfl ?_
      refine J_get X hO.1 inX5 rfl 2 (Nat.le_of_ble_eq_true rfl) wd_170 rfl (v := .ref (o.1 9)) rfl dX5_judge_32 ?_
      refine J_aload_n X 0 dX5_judge_35 rfl rfl ?_
      refine J_get X hO.1 inX5 rfl 0 (Nat.le_of_ble_eq_true rfl) wd_168 rfl (v := .ref (o.1 1)) rfl dX5_judge_36 ?_
      obtain ⟨h3, qh3, hf⟩ := ob hf
      refine J_callV X (rest := []) (rs := []) (c_X4_follow l o emb A hA 1 hO.2.2.2.2.1 hO.2.2.2.1 hO.2.1 h h3 qh3) hO.2.2.2.2.1.1 rfl rfl wd_311 wd_312 wd_313 wd_39 wd_314 hd_X4_follow ⟨Nat.le_of_ble_eq_true rfl, Nat.le_of_ble_eq_true rfl⟩ ⟨Nat.zero_le _, Nat.zero_le _⟩ (Nat.le_of_ble_eq_true rfl) dX5_judge_39 rfl rfl ?_
      refine J_iload_n X 1 dX5_judge_42 rfl rfl ?_
      refine J_if_ne (tgt := 56) X dX5_judge_43 (by decide) (fun c43 => ?_) (fun c43 => ?_)
      · rw [if_neg c43] at hf
        refine J_aload_n X 0 dX5_judge_56 rfl rfl ?_
        refine J_get X hO.1 inX5 rfl 3 (Nat.le_of_ble_eq_true rfl) wd_171 rfl (v := .ref (o.1 11)) rfl dX5_judge_57 ?_
        refine J_getN X hO.2.2.2.2.1.1 inX4 rfl 3 (Nat.le_of_ble_eq_true rfl) nw_131 rfl (v := .int (h3.1 11 3)) rfl dX5_judge_60 ?_
        cases hf
        exact J_iret X dX5_judge_63
      · rw [if_pos c43] at hf
        refine J_aload_n X 0 dX5_judge_46 rfl rfl ?_
        refine J_get X hO.1 inX5 rfl 3 (Nat.le_of_ble_eq_true rfl) wd_171 rfl (v := .ref (o.1 11)) rfl dX5_judge_47 ?_
        refine J_getN X hO.2.2.2.2.1.1 inX4 rfl 2 (Nat.le_of_ble_eq_true rfl) nw_129 rfl (v := .int (h3.1 11 2)) rfl dX5_judge_50 ?_
        refine J_goto (tgt := 63) X dX5_judge_53 (by decide) ?_
        cases hf
        exact J_iret X dX5_judge_63
    · rw [if_neg c21] at hf
      refine J_bipush X (-5 : Int32) dX5_judge_24 (by decide) ?_
      cases hf
      exact J_iret X dX5_judge_26
  · rw [if_pos c6] at hf
    refine J_bipush X (-2 : Int32) dX5_judge_9 (by decide) ?_
    cases hf
    exact J_iret X dX5_judge_11
theorem hd_X5_canBeDone : yX5_canBeDone.cls ≠ "java/lang/invoke/MethodHandle" ∧ yX5_canBeDone.cls ≠ "java/lang/invoke/VarHandle" ∧ (parseMethodDescriptor yX5_canBeDone.desc).map (fun d => d.parameters.length) = some 0 := by decide +kernel
set_option maxHeartbeats 4000000 in
set_option maxRecDepth 100000 in
theorem c_X5_canBeDone (l : Launch) (o : Om) (emb : Hp → va_W) (A : Nat → Prop) (hA : ∀ h : Hp, va_D A (emb h)) (hO : isX5 o emb) (h : Hp) (r : Int32) (h' : Hp) (hf : f_X5_canBeDone h = some (r, h')) : Ct l o emb A yX5_canBeDone cX5_canBeDone 1 (some .boolean) 5 121 [.ref (o.1 0)] h (some (.int r)) h' := by
  refine Ct.of RX5 rfl (by decide +kernel) hA (Nat.le_of_ble_eq_true rfl) (fun p e s m args below meth c X => ?_)
  refine J_sub (lo' := [(0, .ref (o.1 0))]) [0] rfl ?_
  rw [f_X5_canBeDone] at hf
  refine J_aload_n X 0 dX5_canBeDone_0 rfl rfl ?_
  refine J_get X hO.1 inX5 rfl 2 (Nat.le_of_ble_eq_true rfl) wd_170 rfl (v := .ref (o.1 9)) rfl dX5_canBeDone_1 ?_
  obtain ⟨v1, qv1, hf⟩ := ob hf
  refine J_callV X (rest := []) (rs := [.int v1]) (c_X1_faultPlace l o emb A hA hO.2.2.2.1 h v1 qv1) hO.2.2.2.1.1 rfl rfl wd_284 wd_285 wd_286 wd_38 wd_287 hd_X1_faultPlace ⟨Nat.le_of_ble_eq_true rfl, Nat.le_of_ble_eq_true rfl⟩ ⟨Nat.zero_le _, Nat.zero_le _⟩ (Nat.le_of_ble_eq_true rfl) dX5_canBeDone_4 rfl rfl ?_
  refine J_bipush X (-6 : Int32) dX5_canBeDone_7 (by decide) ?_
  refine J_icmp_eq (tgt := 14) X dX5_canBeDone_9 (by decide) (fun c9 => ?_) (fun c9 => ?_)
  · rw [if_pos c9] at hf
    refine J_aload_n X 0 dX5_canBeDone_14 rfl rfl ?_
    refine J_get X hO.1 inX5 rfl 3 (Nat.le_of_ble_eq_true rfl) wd_171 rfl (v := .ref (o.1 11)) rfl dX5_canBeDone_15 ?_
    refine J_aload_n X 0 dX5_canBeDone_18 rfl rfl ?_
    refine J_get X hO.1 inX5 rfl 2 (Nat.le_of_ble_eq_true rfl) wd_170 rfl (v := .ref (o.1 9)) rfl dX5_canBeDone_19 ?_
    refine J_aload_n X 0 dX5_canBeDone_22 rfl rfl ?_
    refine J_get X hO.1 inX5 rfl 0 (Nat.le_of_ble_eq_true rfl) wd_168 rfl (v := .ref (o.1 1)) rfl dX5_canBeDone_23 ?_
    obtain ⟨h2, qh2, hf⟩ := ob hf
    refine J_callV X (rest := []) (rs := []) (c_X4_follow l o emb A hA 1 hO.2.2.2.2.1 hO.2.2.2.1 hO.2.1 h h2 qh2) hO.2.2.2.2.1.1 rfl rfl wd_311 wd_312 wd_313 wd_39 wd_314 hd_X4_follow ⟨Nat.le_of_ble_eq_true rfl, Nat.le_of_ble_eq_true rfl⟩ ⟨Nat.zero_le _, Nat.zero_le _⟩ (Nat.le_of_ble_eq_true rfl) dX5_canBeDone_26 rfl rfl ?_
    refine J_aload_n X 0 dX5_canBeDone_29 rfl rfl ?_
    refine J_get X hO.1 inX5 rfl 3 (Nat.le_of_ble_eq_true rfl) wd_171 rfl (v := .ref (o.1 11)) rfl dX5_canBeDone_30 ?_
    refine J_getN X hO.2.2.2.2.1.1 inX4 rfl 2 (Nat.le_of_ble_eq_true rfl) nw_129 rfl (v := .int (h2.1 11 2)) rfl dX5_canBeDone_33 ?_
    refine J_bipush X (-6 : Int32) dX5_canBeDone_36 (by decide) ?_
    refine J_icmp_ne (tgt := 45) X dX5_canBeDone_38 (by decide) (fun c38 => ?_) (fun c38 => ?_)
    · rw [if_neg c38] at hf
      refine J_const X (0 : Int32) dX5_canBeDone_45 (by decide) ?_
      cases hf
      exact J_zret X rfl dX5_canBeDone_46
    · rw [if_pos c38] at hf
      refine J_const X (1 : Int32) dX5_canBeDone_41 (by decide) ?_
      refine J_goto (tgt := 46) X dX5_canBeDone_42 (by decide) ?_
      cases hf
      exact J_zret X rfl dX5_canBeDone_46
  · rw [if_neg c9] at hf
    refine J_const X (0 : Int32) dX5_canBeDone_12 (by decide) ?_
    cases hf
    exact J_zret X rfl dX5_canBeDone_13
theorem hd_X5_done : yX5_done.cls ≠ "java/lang/invoke/MethodHandle" ∧ yX5_done.cls ≠ "java/lang/invoke/VarHandle" ∧ (parseMethodDescriptor yX5_done.desc).map (fun d => d.parameters.length) = some 0 := by decide +kernel
set_option maxHeartbeats 4000000 in
set_option maxRecDepth 100000 in
theorem c_X5_done (l : Launch) (o : Om) (emb : Hp → va_W) (A : Nat → Prop) (hA : ∀ h : Hp, va_D A (emb h)) (hO : isX5 o emb) (h : Hp) (r : Int32) (h' : Hp) (hf : f_X5_done h = some (r, h')) : Ct l o emb A yX5_done cX5_done 1 (some .int) 6 141 [.ref (o.1 0)] h (some (.int r)) h' := by
  refine Ct.of RX5 rfl (by decide +kernel) hA (Nat.le_of_ble_eq_true rfl) (fun p e s m args below meth c X => ?_)
  refine J_sub (lo' := [(0, .ref (o.1 0))]) [0] rfl ?_
  rw [f_X5_done] at hf
  refine J_aload_n X 0 dX5_done_0 rfl rfl ?_
  obtain ⟨t1, qt1, hf⟩ := ob hf
  refine J_callV X (rest := []) (rs := [.int t1.1]) (c_X5_canBeDone l o emb A hA hO h t1.1 t1.2 qt1) hO.1 rfl rfl wd_380 wd_382 wd_3 wd_34 wd_383 hd_X5_canBeDone ⟨Nat.le_of_ble_eq_true rfl, Nat.le_of_ble_eq_true rfl⟩ ⟨Nat.zero_le _, Nat.zero_le _⟩ (Nat.le_of_ble_eq_true rfl) dX5_done_1 rfl rfl ?_
  refine J_if_ne (tgt := 10) X dX5_done_4 (by decide) (fun c4 => ?_) (fun c4 => ?_)
  · rw [if_neg c4] at hf
    refine J_aload_n X 0 dX5_done_10 rfl rfl ?_
    refine J_get X hO.1 inX5 rfl 0 (Nat.le_of_ble_eq_true rfl) wd_168 rfl (v := .ref (o.1 1)) rfl dX5_done_11 ?_
    refine J_aload_n X 0 dX5_done_14 rfl rfl ?_
    refine J_get X hO.1 inX5 rfl 3 (Nat.le_of_ble_eq_true rfl) wd_171 rfl (v := .ref (o.1 11)) rfl dX5_done_15 ?_
    refine J_getN X hO.2.2.2.2.1.1 inX4 rfl 0 (Nat.le_of_ble_eq_true rfl) nw_125 rfl (v := .ref (o.1 12)) rfl dX5_done_18 ?_
    obtain ⟨h2, qh2, hf⟩ := ob hf
    refine J_callV X (rest := []) (rs := []) (c_X2_copyFrom l o emb A hA 1 12 hO.2.1 hO.2.2.2.2.1.2 t1.2 h2 qh2) hO.2.1.1 rfl rfl wd_384 wd_320 wd_321 wd_35 wd_322 hd_X2_copyFrom ⟨Nat.le_of_ble_eq_true rfl, Nat.le_of_ble_eq_true rfl⟩ ⟨Nat.zero_le _, Nat.zero_le _⟩ (Nat.le_of_ble_eq_true rfl) dX5_done_21 rfl rfl ?_
    refine J_aload_n X 0 dX5_done_24 rfl rfl ?_
    refine J_get X hO.1 inX5 rfl 2 (Nat.le_of_ble_eq_true rfl) wd_170 rfl (v := .ref (o.1 9)) rfl dX5_done_25 ?_
    obtain ⟨h3, qh3, hf⟩ := ob hf
    refine J_callV X (rest := []) (rs := []) (c_X1_empty l o emb A hA hO.2.2.2.1 h2 h3 qh3) hO.2.2.2.1.1 rfl rfl wd_276 wd_277 wd_278 wd_38 wd_279 hd_X1_empty ⟨Nat.le_of_ble_eq_true rfl, Nat.le_of_ble_eq_true rfl⟩ ⟨Nat.zero_le _, Nat.zero_le _⟩ (Nat.le_of_ble_eq_true rfl) dX5_done_28 rfl rfl ?_
    refine J_aload_n X 0 dX5_done_31 rfl rfl ?_
    refine J_get X hO.1 inX5 rfl 3 (Nat.le_of_ble_eq_true rfl) wd_171 rfl (v := .ref (o.1 11)) rfl dX5_done_32 ?_
    refine J_getN X hO.2.2.2.2.1.1 inX4 rfl 1 (Nat.le_of_ble_eq_true rfl) nw_127 rfl (v := .int (h3.1 11 1)) rfl dX5_done_35 ?_
    cases hf
    exact J_iret X dX5_done_38
  · rw [if_pos c4] at hf
    refine J_bipush X (-5 : Int32) dX5_done_7 (by decide) ?_
    cases hf
    exact J_iret X dX5_done_9
theorem hd_X5_behind : yX5_behind.cls ≠ "java/lang/invoke/MethodHandle" ∧ yX5_behind.cls ≠ "java/lang/invoke/VarHandle" ∧ (parseMethodDescriptor yX5_behind.desc).map (fun d => d.parameters.length) = some 2 := by decide +kernel
set_option maxHeartbeats 4000000 in
set_option maxRecDepth 100000 in
theorem c_X5_behind (l : Launch) (o : Om) (emb : Hp → va_W) (A : Nat → Prop) (hA : ∀ h : Hp, va_D A (emb h)) (hO : isX5 o emb) (x1 : Int32) (x2 : Int32) (h : Hp) (r : Int32) (h' : Hp) (hf : f_X5_behind x1 x2 h = some (r, h')) : Ct l o emb A yX5_behind cX5_behind 3 (some .int) 6 141 [.ref (o.1 0), .int x1, .int x2] h (some (.int r)) h' := by
  refine Ct.of RX5 rfl (by decide +kernel) hA (Nat.le_of_ble_eq_true rfl) (fun p e s m args below meth c X => ?_)
  refine J_sub (lo' := [(0, .ref (o.1 0)), (1, .int x1), (2, .int x2)]) [0, 1, 2] rfl ?_
  rw [f_X5_behind] at hf
  refine J_iload_n X 1 dX5_behind_0 rfl rfl ?_
  refine J_iload_n X 2 dX5_behind_1 rfl rfl ?_
  obtain ⟨v1, qv1, hf⟩ := ob hf
  refine J_callS X (rest := []) (rs := [.int v1]) (c_X5_areTwoPlaces l o emb A hA x1 x2 h v1 qv1) wd_213 wd_214 wd_34 wd_215 hd_X5_areTwoPlaces ⟨Nat.le_of_ble_eq_true rfl, Nat.le_of_ble_eq_true rfl⟩ ⟨Nat.zero_le _, Nat.zero_le _⟩ (Nat.le_of_ble_eq_true rfl) dX5_behind_2 rfl rfl ?_
  refine J_if_ne (tgt := 10) X dX5_behind_5 (by decide) (fun c5 => ?_) (fun c5 => ?_)
  · rw [if_neg c5] at hf
    refine J_aload_n X 0 dX5_behind_10 rfl rfl ?_
    obtain ⟨t2, qt2, hf⟩ := ob hf
    refine J_callV X (rest := []) (rs := [.int t2.1]) (c_X5_canBeDone l o emb A hA hO h t2.1 t2.2 qt2) hO.1 rfl rfl wd_380 wd_382 wd_3 wd_34 wd_383 hd_X5_canBeDone ⟨Nat.le_of_ble_eq_true rfl, Nat.le_of_ble_eq_true rfl⟩ ⟨Nat.zero_le _, Nat.zero_le _⟩ (Nat.le_of_ble_eq_true rfl) dX5_behind_11 rfl rfl ?_
    refine J_if_ne (tgt := 20) X dX5_behind_14 (by decide) (fun c14 => ?_) (fun c14 => ?_)
    · rw [if_neg c14] at hf
      refine J_aload_n X 0 dX5_behind_20 rfl rfl ?_
      refine J_get X hO.1 inX5 rfl 3 (Nat.le_of_ble_eq_true rfl) wd_171 rfl (v := .ref (o.1 11)) rfl dX5_behind_21 ?_
      refine J_getN X hO.2.2.2.2.1.1 inX4 rfl 0 (Nat.le_of_ble_eq_true rfl) nw_125 rfl (v := .ref (o.1 12)) rfl dX5_behind_24 ?_
      refine J_iload_n X 1 dX5_behind_27 rfl rfl ?_
      refine J_iload_n X 2 dX5_behind_28 rfl rfl ?_
      obtain ⟨v3, qv3, hf⟩ := ob hf
      refine J_callV X (rest := []) (rs := [.int v3]) (c_X2_roadBetween l o emb A hA 12 hO.2.2.2.2.1.2 x1 x2 t2.2 v3 qv3) hO.2.2.2.2.1.2.1 rfl rfl wd_389 wd_341 wd_342 wd_35 wd_343 hd_X2_roadBetween ⟨Nat.le_of_ble_eq_true rfl, Nat.le_of_ble_eq_true rfl⟩ ⟨Nat.zero_le _, Nat.zero_le _⟩ (Nat.le_of_ble_eq_true rfl) dX5_behind_29 rfl rfl ?_
      cases hf
      exact J_iret X dX5_behind_32
    · rw [if_pos c14] at hf
      refine J_bipush X (-5 : Int32) dX5_behind_17 (by decide) ?_
      cases hf
      exact J_iret X dX5_behind_19
  · rw [if_pos c5] at hf
    refine J_const X (-1 : Int32) dX5_behind_8 (by decide) ?_
    cases hf
    exact J_iret X dX5_behind_9
theorem hd_X5_goes : yX5_goes.cls ≠ "java/lang/invoke/MethodHandle" ∧ yX5_goes.cls ≠ "java/lang/invoke/VarHandle" ∧ (parseMethodDescriptor yX5_goes.desc).map (fun d => d.parameters.length) = some 2 := by decide +kernel
set_option maxHeartbeats 4000000 in
set_option maxRecDepth 100000 in
theorem c_X5_goes (l : Launch) (o : Om) (emb : Hp → va_W) (A : Nat → Prop) (hA : ∀ h : Hp, va_D A (emb h)) (hO : isX5 o emb) (x1 : Int32) (x2 : Int32) (h : Hp) (r : Int32) (h' : Hp) (hf : f_X5_goes x1 x2 h = some (r, h')) : Ct l o emb A yX5_goes cX5_goes 3 (some .int) 6 141 [.ref (o.1 0), .int x1, .int x2] h (some (.int r)) h' := by
  refine Ct.of RX5 rfl (by decide +kernel) hA (Nat.le_of_ble_eq_true rfl) (fun p e s m args below meth c X => ?_)
  refine J_sub (lo' := [(0, .ref (o.1 0)), (1, .int x1), (2, .int x2)]) [0, 1, 2] rfl ?_
  rw [f_X5_goes] at hf
  refine J_aload_n X 0 dX5_goes_0 rfl rfl ?_
  refine J_get X hO.1 inX5 rfl 0 (Nat.le_of_ble_eq_true rfl) wd_168 rfl (v := .ref (o.1 1)) rfl dX5_goes_1 ?_
  refine J_iload_n X 1 dX5_goes_4 rfl rfl ?_
  obtain ⟨v1, qv1, hf⟩ := ob hf
  refine J_callV X (rest := []) (rs := [.int v1]) (c_X2_isThere l o emb A hA 1 hO.2.1 x1 h v1 qv1) hO.2.1.1 rfl rfl wd_394 wd_250 wd_251 wd_35 wd_252 hd_X2_isThere ⟨Nat.le_of_ble_eq_true rfl, Nat.le_of_ble_eq_true rfl⟩ ⟨Nat.zero_le _, Nat.zero_le _⟩ (Nat.le_of_ble_eq_true rfl) dX5_goes_5 rfl rfl ?_
  refine J_if_ne (tgt := 13) X dX5_goes_8 (by decide) (fun c8 => ?_) (fun c8 => ?_)
  · rw [if_neg c8] at hf
    refine J_iload_n X 2 dX5_goes_13 rfl rfl ?_
    refine J_const X (0 : Int32) dX5_goes_14 (by decide) ?_
    refine J_const X (1 : Int32) dX5_goes_15 (by decide) ?_
    obtain ⟨v2, qv2, hf⟩ := ob hf
    refine J_callS X (rest := []) (rs := [.int v2]) (c_X5_within l o emb A hA x2 (0 : Int32) (1 : Int32) h v2 qv2) wd_216 wd_217 wd_34 wd_218 hd_X5_within ⟨Nat.le_of_ble_eq_true rfl, Nat.le_of_ble_eq_true rfl⟩ ⟨Nat.zero_le _, Nat.zero_le _⟩ (Nat.le_of_ble_eq_true rfl) dX5_goes_16 rfl rfl ?_
    refine J_if_ne (tgt := 25) X dX5_goes_19 (by decide) (fun c19 => ?_) (fun c19 => ?_)
    · rw [if_neg c19] at hf
      refine J_aload_n X 0 dX5_goes_25 rfl rfl ?_
      obtain ⟨t3, qt3, hf⟩ := ob hf
      refine J_callV X (rest := []) (rs := [.int t3.1]) (c_X5_canBeDone l o emb A hA hO h t3.1 t3.2 qt3) hO.1 rfl rfl wd_380 wd_382 wd_3 wd_34 wd_383 hd_X5_canBeDone ⟨Nat.le_of_ble_eq_true rfl, Nat.le_of_ble_eq_true rfl⟩ ⟨Nat.zero_le _, Nat.zero_le _⟩ (Nat.le_of_ble_eq_true rfl) dX5_goes_26 rfl rfl ?_
      refine J_if_ne (tgt := 35) X dX5_goes_29 (by decide) (fun c29 => ?_) (fun c29 => ?_)
      · rw [if_neg c29] at hf
        refine J_iload_n X 2 dX5_goes_35 rfl rfl ?_
        refine J_if_ne (tgt := 53) X dX5_goes_36 (by decide) (fun c36 => ?_) (fun c36 => ?_)
        · rw [if_neg c36] at hf
          refine J_aload_n X 0 dX5_goes_53 rfl rfl ?_
          refine J_get X hO.1 inX5 rfl 3 (Nat.le_of_ble_eq_true rfl) wd_171 rfl (v := .ref (o.1 11)) rfl dX5_goes_54 ?_
          refine J_getN X hO.2.2.2.2.1.1 inX4 rfl 0 (Nat.le_of_ble_eq_true rfl) nw_125 rfl (v := .ref (o.1 12)) rfl dX5_goes_57 ?_
          refine J_iload_n X 1 dX5_goes_60 rfl rfl ?_
          obtain ⟨v4, qv4, hf⟩ := ob hf
          refine J_callV X (rest := []) (rs := [.int v4]) (c_X2_ironOf l o emb A hA 12 hO.2.2.2.2.1.2 x1 t3.2 v4 qv4) hO.2.2.2.2.1.2.1 rfl rfl wd_396 wd_363 wd_364 wd_35 wd_365 hd_X2_ironOf ⟨Nat.le_of_ble_eq_true rfl, Nat.le_of_ble_eq_true rfl⟩ ⟨Nat.zero_le _, Nat.zero_le _⟩ (Nat.le_of_ble_eq_true rfl) dX5_goes_61 rfl rfl ?_
          cases hf
          exact J_iret X dX5_goes_64
        · rw [if_pos c36] at hf
          refine J_aload_n X 0 dX5_goes_39 rfl rfl ?_
          refine J_get X hO.1 inX5 rfl 3 (Nat.le_of_ble_eq_true rfl) wd_171 rfl (v := .ref (o.1 11)) rfl dX5_goes_40 ?_
          refine J_getN X hO.2.2.2.2.1.1 inX4 rfl 0 (Nat.le_of_ble_eq_true rfl) nw_125 rfl (v := .ref (o.1 12)) rfl dX5_goes_43 ?_
          refine J_iload_n X 1 dX5_goes_46 rfl rfl ?_
          obtain ⟨v5, qv5, hf⟩ := ob hf
          refine J_callV X (rest := []) (rs := [.int v5]) (c_X2_placeOf l o emb A hA 12 hO.2.2.2.2.1.2 x1 t3.2 v5 qv5) hO.2.2.2.2.1.2.1 rfl rfl wd_395 wd_371 wd_372 wd_35 wd_373 hd_X2_placeOf ⟨Nat.le_of_ble_eq_true rfl, Nat.le_of_ble_eq_true rfl⟩ ⟨Nat.zero_le _, Nat.zero_le _⟩ (Nat.le_of_ble_eq_true rfl) dX5_goes_47 rfl rfl ?_
          refine J_goto (tgt := 64) X dX5_goes_50 (by decide) ?_
          cases hf
          exact J_iret X dX5_goes_64
      · rw [if_pos c29] at hf
        refine J_bipush X (-5 : Int32) dX5_goes_32 (by decide) ?_
        cases hf
        exact J_iret X dX5_goes_34
    · rw [if_pos c19] at hf
      refine J_bipush X (-2 : Int32) dX5_goes_22 (by decide) ?_
      cases hf
      exact J_iret X dX5_goes_24
  · rw [if_pos c8] at hf
    refine J_const X (-1 : Int32) dX5_goes_11 (by decide) ?_
    cases hf
    exact J_iret X dX5_goes_12
theorem hd_X5_then : yX5_then.cls ≠ "java/lang/invoke/MethodHandle" ∧ yX5_then.cls ≠ "java/lang/invoke/VarHandle" ∧ (parseMethodDescriptor yX5_then.desc).map (fun d => d.parameters.length) = some 1 := by decide +kernel
set_option maxHeartbeats 4000000 in
set_option maxRecDepth 100000 in
theorem c_X5_then (l : Launch) (o : Om) (emb : Hp → va_W) (A : Nat → Prop) (hA : ∀ h : Hp, va_D A (emb h)) (hO : isX5 o emb) (x1 : Int32) (h : Hp) (r : Int32) (h' : Hp) (hf : f_X5_then x1 h = some (r, h')) : Ct l o emb A yX5_then cX5_then 2 (some .int) 6 141 [.ref (o.1 0), .int x1] h (some (.int r)) h' := by
  refine Ct.of RX5 rfl (by decide +kernel) hA (Nat.le_of_ble_eq_true rfl) (fun p e s m args below meth c X => ?_)
  refine J_sub (lo' := [(0, .ref (o.1 0)), (1, .int x1)]) [0, 1] rfl ?_
  rw [f_X5_then] at hf
  refine J_iload_n X 1 dX5_then_0 rfl rfl ?_
  refine J_const X (0 : Int32) dX5_then_1 (by decide) ?_
  refine J_const X (5 : Int32) dX5_then_2 (by decide) ?_
  obtain ⟨v1, qv1, hf⟩ := ob hf
  refine J_callS X (rest := []) (rs := [.int v1]) (c_X5_within l o emb A hA x1 (0 : Int32) (5 : Int32) h v1 qv1) wd_216 wd_217 wd_34 wd_218 hd_X5_within ⟨Nat.le_of_ble_eq_true rfl, Nat.le_of_ble_eq_true rfl⟩ ⟨Nat.zero_le _, Nat.zero_le _⟩ (Nat.le_of_ble_eq_true rfl) dX5_then_3 rfl rfl ?_
  refine J_if_ne (tgt := 12) X dX5_then_6 (by decide) (fun c6 => ?_) (fun c6 => ?_)
  · rw [if_neg c6] at hf
    refine J_aload_n X 0 dX5_then_12 rfl rfl ?_
    obtain ⟨t2, qt2, hf⟩ := ob hf
    refine J_callV X (rest := []) (rs := [.int t2.1]) (c_X5_canBeDone l o emb A hA hO h t2.1 t2.2 qt2) hO.1 rfl rfl wd_380 wd_382 wd_3 wd_34 wd_383 hd_X5_canBeDone ⟨Nat.le_of_ble_eq_true rfl, Nat.le_of_ble_eq_true rfl⟩ ⟨Nat.zero_le _, Nat.zero_le _⟩ (Nat.le_of_ble_eq_true rfl) dX5_then_13 rfl rfl ?_
    refine J_if_ne (tgt := 22) X dX5_then_16 (by decide) (fun c16 => ?_) (fun c16 => ?_)
    · rw [if_neg c16] at hf
      refine J_iload_n X 1 dX5_then_22 rfl rfl ?_
      by_cases c23_0 : x1 = (0 : Int32)
      · rw [if_pos c23_0] at hf
        refine J_topi (0 : Int32) c23_0 ?_
        refine J_tableIn (tgt := 56) X dX5_then_23 (by decide) (by decide) rfl (by decide) ?_
        refine J_aload_n X 0 dX5_then_56 rfl rfl ?_
        refine J_get X hO.1 inX5 rfl 3 (Nat.le_of_ble_eq_true rfl) wd_171 rfl (v := .ref (o.1 11)) rfl dX5_then_57 ?_
        refine J_getN X hO.2.2.2.2.1.1 inX4 rfl 0 (Nat.le_of_ble_eq_true rfl) nw_125 rfl (v := .ref (o.1 12)) rfl dX5_then_60 ?_
        obtain ⟨v5, qv5, hf⟩ := ob hf
        refine J_callV X (rest := []) (rs := [.int v5]) (c_X2_countRoads l o emb A hA 12 hO.2.2.2.2.1.2 t2.2 v5 qv5) hO.2.2.2.2.1.2.1 rfl rfl wd_227 wd_228 wd_229 wd_35 wd_230 hd_X2_countRoads ⟨Nat.le_of_ble_eq_true rfl, Nat.le_of_ble_eq_true rfl⟩ ⟨Nat.zero_le _, Nat.zero_le _⟩ (Nat.le_of_ble_eq_true rfl) dX5_then_63 rfl rfl ?_
        cases hf
        exact J_iret X dX5_then_66
      · rw [if_neg c23_0] at hf
        by_cases c23_1 : x1 = (1 : Int32)
        · rw [if_pos c23_1] at hf
          refine J_topi (1 : Int32) c23_1 ?_
          refine J_tableIn (tgt := 67) X dX5_then_23 (by decide) (by decide) rfl (by decide) ?_
          refine J_aload_n X 0 dX5_then_67 rfl rfl ?_
          refine J_get X hO.1 inX5 rfl 3 (Nat.le_of_ble_eq_true rfl) wd_171 rfl (v := .ref (o.1 11)) rfl dX5_then_68 ?_
          refine J_getN X hO.2.2.2.2.1.1 inX4 rfl 0 (Nat.le_of_ble_eq_true rfl) nw_125 rfl (v := .ref (o.1 12)) rfl dX5_then_71 ?_
          obtain ⟨v4, qv4, hf⟩ := ob hf
          refine J_callV X (rest := []) (rs := [.int v4]) (c_X2_addWear l o emb A hA 12 hO.2.2.2.2.1.2 t2.2 v4 qv4) hO.2.2.2.2.1.2.1 rfl rfl wd_401 wd_402 wd_403 wd_35 wd_404 hd_X2_addWear ⟨Nat.le_of_ble_eq_true rfl, Nat.le_of_ble_eq_true rfl⟩ ⟨Nat.zero_le _, Nat.zero_le _⟩ (Nat.le_of_ble_eq_true rfl) dX5_then_74 rfl rfl ?_
          cases hf
          exact J_iret X dX5_then_77
        · rw [if_neg c23_1] at hf
          by_cases c23_2 : x1 = (2 : Int32)
          · rw [if_pos c23_2] at hf
            refine J_topi (2 : Int32) c23_2 ?_
            refine J_tableIn (tgt := 78) X dX5_then_23 (by decide) (by decide) rfl (by decide) ?_
            refine J_aload_n X 0 dX5_then_78 rfl rfl ?_
            refine J_get X hO.1 inX5 rfl 3 (Nat.le_of_ble_eq_true rfl) wd_171 rfl (v := .ref (o.1 11)) rfl dX5_then_79 ?_
            refine J_getN X hO.2.2.2.2.1.1 inX4 rfl 0 (Nat.le_of_ble_eq_true rfl) nw_125 rfl (v := .ref (o.1 12)) rfl dX5_then_82 ?_
            obtain ⟨v3, qv3, hf⟩ := ob hf
            refine J_callV X (rest := []) (rs := [.int v3]) (c_X2_shutIn l o emb A hA 12 hO.2.2.2.2.1.2 t2.2 v3 qv3) hO.2.2.2.2.1.2.1 rfl rfl wd_406 wd_407 wd_408 wd_35 wd_409 hd_X2_shutIn ⟨Nat.le_of_ble_eq_true rfl, Nat.le_of_ble_eq_true rfl⟩ ⟨Nat.zero_le _, Nat.zero_le _⟩ (Nat.le_of_ble_eq_true rfl) dX5_then_85 rfl rfl ?_
            cases hf
            exact J_iret X dX5_then_88
          · rw [if_neg c23_2] at hf
            by_cases c23_3 : x1 = (3 : Int32)
            · rw [if_pos c23_3] at hf
              refine J_topi (3 : Int32) c23_3 ?_
              refine J_tableIn (tgt := 89) X dX5_then_23 (by decide) (by decide) rfl (by decide) ?_
              refine J_aload_n X 0 dX5_then_89 rfl rfl ?_
              refine J_get X hO.1 inX5 rfl 3 (Nat.le_of_ble_eq_true rfl) wd_171 rfl (v := .ref (o.1 11)) rfl dX5_then_90 ?_
              refine J_getN X hO.2.2.2.2.1.1 inX4 rfl 0 (Nat.le_of_ble_eq_true rfl) nw_125 rfl (v := .ref (o.1 12)) rfl dX5_then_93 ?_
              refine J_getN X hO.2.2.2.2.1.2.1 inX2 rfl 3 (Nat.le_of_ble_eq_true rfl) nw_65 rfl (v := .int (t2.2.1 12 3)) rfl dX5_then_96 ?_
              cases hf
              exact J_iret X dX5_then_99
            · rw [if_neg c23_3] at hf
              by_cases c23_4 : x1 = (4 : Int32)
              · rw [if_pos c23_4] at hf
                refine J_topi (4 : Int32) c23_4 ?_
                refine J_tableIn (tgt := 100) X dX5_then_23 (by decide) (by decide) rfl (by decide) ?_
                refine J_aload_n X 0 dX5_then_100 rfl rfl ?_
                refine J_get X hO.1 inX5 rfl 3 (Nat.le_of_ble_eq_true rfl) wd_171 rfl (v := .ref (o.1 11)) rfl dX5_then_101 ?_
                refine J_getN X hO.2.2.2.2.1.1 inX4 rfl 4 (Nat.le_of_ble_eq_true rfl) nw_133 rfl (v := .int (t2.2.1 11 4)) rfl dX5_then_104 ?_
                cases hf
                exact J_iret X dX5_then_107
              · rw [if_neg c23_4] at hf
                refine J_tableOut (tgt := 108) X dX5_then_23 (sw_out5_0 c23_0 c23_1 c23_2 c23_3 c23_4) (by decide) ?_
                refine J_aload_n X 0 dX5_then_108 rfl rfl ?_
                refine J_get X hO.1 inX5 rfl 3 (Nat.le_of_ble_eq_true rfl) wd_171 rfl (v := .ref (o.1 11)) rfl dX5_then_109 ?_
                refine J_getN X hO.2.2.2.2.1.1 inX4 rfl 0 (Nat.le_of_ble_eq_true rfl) nw_125 rfl (v := .ref (o.1 12)) rfl dX5_then_112 ?_
                refine J_getN X hO.2.2.2.2.1.2.1 inX2 rfl 4 (Nat.le_of_ble_eq_true rfl) nw_68 rfl (v := .int (t2.2.1 12 4)) rfl dX5_then_115 ?_
                cases hf
                exact J_iret X dX5_then_118
    · rw [if_pos c16] at hf
      refine J_bipush X (-5 : Int32) dX5_then_19 (by decide) ?_
      cases hf
      exact J_iret X dX5_then_21
  · rw [if_pos c6] at hf
    refine J_bipush X (-2 : Int32) dX5_then_9 (by decide) ?_
    cases hf
    exact J_iret X dX5_then_11
theorem hd_X5_lengthenFrom : yX5_lengthenFrom.cls ≠ "java/lang/invoke/MethodHandle" ∧ yX5_lengthenFrom.cls ≠ "java/lang/invoke/VarHandle" ∧ (parseMethodDescriptor yX5_lengthenFrom.desc).map (fun d => d.parameters.length) = some 2 := by decide +kernel
set_option maxHeartbeats 4000000 in
set_option maxRecDepth 100000 in
theorem cf_X5_lengthenFrom_l19 {R : Type} (hA : ∀ h : Hp, va_D A (emb h)) (X : Cx p s m args meth c RX5 cX5_lengthenFrom 7 none o)  (hO : isX5 o emb) (s1 : Int32) (s2 : Int32) (s3 : Int32) {kx : Int32 → Hp → Option R} (t : R) : ∀ (n : Nat) (s4 : Int32) (h : Hp), f_X5_lengthenFrom_l19 s1 s2 s3 kx n s4 h = some t → (∀ (s4 : Int32) (h : Hp), kx s4 h = some t → J p l e (rmf 3 65) s m args below meth c 0 0 Z o emb A H0 7 103 [] [] h) → J p l e (rmf 3 65) s m args below meth c 0 0 Z o emb A H0 7 19 [(0, .ref (o.1 0)), (1, .int s1), (2, .int s2), (3, .int s3), (4, .int s4)] [] h := by
  intro n
  induction n with
  | zero =>
    intro s4 h hf hk
    cases hf
  | succ n ih =>
    intro s4 h hf hk
    rw [f_X5_lengthenFrom_l19] at hf
    refine J_iload X 4 dX5_lengthenFrom_19 rfl ?_
    refine J_bipush X (9 : Int32) dX5_lengthenFrom_21 (by decide) ?_
    refine J_icmp_ge (tgt := 103) X dX5_lengthenFrom_23 (by decide) (fun c23 => ?_) (fun c23 => ?_)
    · rw [if_pos c23] at hf
      exact J_sub [] rfl (hk s4 h hf)
    · rw [if_neg c23] at hf
      refine J_aload_n X 0 dX5_lengthenFrom_26 rfl rfl ?_
      refine J_get X hO.1 inX5 rfl 0 (Nat.le_of_ble_eq_true rfl) wd_168 rfl (v := .ref (o.1 1)) rfl dX5_lengthenFrom_27 ?_
      refine J_iload_n X 1 dX5_lengthenFrom_30 rfl rfl ?_
      refine J_iload X 4 dX5_lengthenFrom_31 rfl ?_
      obtain ⟨v2, qv2, hf⟩ := ob hf
      refine J_callV X (rest := []) (rs := [.int v2]) (c_X2_isOpen l o emb A hA 1 hO.2.1 s1 s4 h v2 qv2) hO.2.1.1 rfl rfl wd_433 wd_415 wd_416 wd_35 wd_417 hd_X2_isOpen ⟨Nat.le_of_ble_eq_true rfl, Nat.le_of_ble_eq_true rfl⟩ ⟨Nat.zero_le _, Nat.zero_le _⟩ (Nat.le_of_ble_eq_true rfl) dX5_lengthenFrom_33 rfl rfl ?_
      refine J_if_eq (tgt := 97) X dX5_lengthenFrom_36 (by decide) (fun c36 => ?_) (fun c36 => ?_)
      · rw [if_pos c36] at hf
        obtain ⟨v3, qv3, hf⟩ := ob hf
        refine J_iinc X 4 [(4, .int v3), (0, .ref (o.1 0)), (1, .int s1), (2, .int s2), (3, .int s3)] dX5_lengthenFrom_97 rfl (Option.some.inj qv3) (Nat.le_of_ble_eq_true rfl) rfl ?_
        refine J_goto (tgt := 19) X dX5_lengthenFrom_100 (by decide) ?_
        exact J_sub [1, 2, 3, 4, 0] rfl (ih v3 h hf hk)
      · rw [if_neg c36] at hf
        refine J_iload_n X 3 dX5_lengthenFrom_39 rfl rfl ?_
        refine J_iload_n X 2 dX5_lengthenFrom_40 rfl rfl ?_
        obtain ⟨t5, qt5, hf⟩ := ob hf
        have yk4 : J p l e (rmf 3 65) s m args below meth c 0 0 Z o emb A H0 7 58 [(0, .ref (o.1 0)), (1, .int s1), (2, .int s2), (3, .int s3), (4, .int s4)] [.int t5, .int s3] h := by
          refine J_iadd X dX5_lengthenFrom_58 ?_
          obtain ⟨v6, qv6, hf⟩ := ob hf
          refine J_topi v6 (Option.some.inj qv6) ?_
          refine J_istore X [(5, .int v6), (0, .ref (o.1 0)), (1, .int s1), (2, .int s2), (3, .int s3), (4, .int s4)] dX5_lengthenFrom_59 (Nat.le_of_ble_eq_true rfl) rfl ?_
          refine J_aload_n X 1 dX5_lengthenFrom_61 rfl rfl ?_
          refine J_get X hO.1 inX5 rfl 6 (Nat.le_of_ble_eq_true rfl) wd_174 rfl (v := .ref (o.1 34)) rfl dX5_lengthenFrom_62 ?_
          refine J_iload X 5 dX5_lengthenFrom_65 rfl ?_
          obtain ⟨v7, qv7, hf⟩ := ob hf
          refine J_callS X (rest := []) (rs := [.int v7]) (c_X5_at l o emb A hA 34 9 hO.2.2.2.2.2.2.2.1 s4 h v7 qv7) wd_432 wd_255 wd_34 wd_256 hd_X5_at ⟨Nat.le_of_ble_eq_true rfl, Nat.le_of_ble_eq_true rfl⟩ ⟨Nat.zero_le _, Nat.zero_le _⟩ (Nat.le_of_ble_eq_true rfl) dX5_lengthenFrom_67 rfl rfl ?_
          refine J_istore X [(6, .int v7), (5, .int v6), (0, .ref (o.1 0)), (1, .int s1), (2, .int s2), (3, .int s3), (4, .int s4)] dX5_lengthenFrom_70 (Nat.le_of_ble_eq_true rfl) rfl ?_
          refine J_iload X 0 dX5_lengthenFrom_72 rfl ?_
          refine J_bipush X (-6 : Int32) dX5_lengthenFrom_74 (by decide) ?_
          obtain ⟨k8, qk8, hf⟩ := jn_s hf
          have yk8 : ∀ (j9 : Int32), k8 j9 = some t → J p l e (rmf 3 65) s m args below meth c 0 0 Z o emb A H0 7 86 [(0, .ref (o.1 0)), (1, .int s1), (2, .int s2), (3, .int s3), (4, .int j9), (5, .int v6)] [] h := by
            intro j9 hf
            rw [qk8] at hf
            try dsimp only at hf
            refine J_aload_n X 0 dX5_lengthenFrom_86 rfl rfl ?_
            refine J_get X hO.1 inX5 rfl 6 (Nat.le_of_ble_eq_true rfl) wd_174 rfl (v := .ref (o.1 34)) rfl dX5_lengthenFrom_87 ?_
            refine J_iload X 4 dX5_lengthenFrom_90 rfl ?_
            refine J_iload X 5 dX5_lengthenFrom_92 rfl ?_
            obtain ⟨h10, qh10, hf⟩ := ob hf
            refine J_callS X (rest := []) (rs := []) (c_X5_put l o emb A hA 34 9 hO.2.2.2.2.2.2.2.1 j9 v6 h h10 qh10) wd_427 wd_225 wd_34 wd_226 hd_X5_put ⟨Nat.le_of_ble_eq_true rfl, Nat.le_of_ble_eq_true rfl⟩ ⟨Nat.zero_le _, Nat.zero_le _⟩ (Nat.le_of_ble_eq_true rfl) dX5_lengthenFrom_94 rfl rfl ?_
            obtain ⟨v11, qv11, hf⟩ := ob hf
            refine J_iinc X 4 [(4, .int v11), (0, .ref (o.1 0)), (1, .int s1), (2, .int s2), (3, .int s3), (5, .int v6)] dX5_lengthenFrom_97 rfl (Option.some.inj qv11) (Nat.le_of_ble_eq_true rfl) rfl ?_
            refine J_goto (tgt := 19) X dX5_lengthenFrom_100 (by decide) ?_
            exact J_sub [1, 2, 3, 4, 0] rfl (ih v11 h10 hf hk)
          refine J_icmp_eq (tgt := 86) X dX5_lengthenFrom_76 (by decide) (fun c76 => ?_) (fun c76 => ?_)
          · rw [if_pos c76] at hf
            exact J_sub [2, 3, 4, 5, 6, 1] rfl (yk8 s4 hf)
          · rw [if_neg c76] at hf
            refine J_iload X 1 dX5_lengthenFrom_79 rfl ?_
            refine J_iload X 0 dX5_lengthenFrom_81 rfl ?_
            refine J_icmp_ge (tgt := 97) X dX5_lengthenFrom_83 (by decide) (fun c83 => ?_) (fun c83 => ?_)
            · rw [if_pos c83] at hf
              obtain ⟨v12, qv12, hf⟩ := ob hf
              refine J_iinc X 6 [(4, .int v12), (6, .int v7), (5, .int v6), (0, .ref (o.1 0)), (1, .int s1), (2, .int s2), (3, .int s3)] dX5_lengthenFrom_97 rfl (Option.some.inj qv12) (Nat.le_of_ble_eq_true rfl) rfl ?_
              refine J_goto (tgt := 19) X dX5_lengthenFrom_100 (by decide) ?_
              exact J_sub [3, 4, 5, 6, 0] rfl (ih v12 h hf hk)
            · rw [if_neg c83] at hf
              exact J_sub [2, 3, 4, 5, 6, 1] rfl (yk8 s4 hf)
        clear hf
        have hf := qt5
        clear qt5
        refine J_if_eq (tgt := 57) X dX5_lengthenFrom_41 (by decide) (fun c41 => ?_) (fun c41 => ?_)
        · rw [if_pos c41] at hf
          refine J_const X (1 : Int32) dX5_lengthenFrom_57 (by decide) ?_
          cases hf
          exact J_sub [0, 1, 2, 3, 4] rfl yk4
        · rw [if_neg c41] at hf
          refine J_aload_n X 0 dX5_lengthenFrom_44 rfl rfl ?_
          refine J_get X hO.1 inX5 rfl 0 (Nat.le_of_ble_eq_true rfl) wd_168 rfl (v := .ref (o.1 1)) rfl dX5_lengthenFrom_45 ?_
          refine J_iload_n X 1 dX5_lengthenFrom_48 rfl rfl ?_
          refine J_iload X 4 dX5_lengthenFrom_49 rfl ?_
          obtain ⟨v13, qv13, hf⟩ := ob hf
          refine J_callV X (rest := [.int s3]) (rs := [.int v13, .int s3]) (c_X2_roadBetween l o emb A hA 1 hO.2.1 s1 s4 h v13 qv13) hO.2.1.1 rfl rfl wd_389 wd_341 wd_342 wd_35 wd_343 hd_X2_roadBetween ⟨Nat.le_of_ble_eq_true rfl, Nat.le_of_ble_eq_true rfl⟩ ⟨Nat.zero_le _, Nat.zero_le _⟩ (Nat.le_of_ble_eq_true rfl) dX5_lengthenFrom_51 rfl rfl ?_
          refine J_goto (tgt := 58) X dX5_lengthenFrom_54 (by decide) ?_
          cases hf
          exact J_sub [0, 1, 2, 3, 4] rfl yk4
set_option maxHeartbeats 4000000 in
set_option maxRecDepth 100000 in
theorem c_X5_lengthenFrom (l : Launch) (o : Om) (emb : Hp → va_W) (A : Nat → Prop) (hA : ∀ h : Hp, va_D A (emb h)) (hO : isX5 o emb) (x1 : Int32) (x2 : Int32) (h : Hp)  (h' : Hp) (hf : f_X5_lengthenFrom x1 x2 h = some h') : Ct l o emb A yX5_lengthenFrom cX5_lengthenFrom 7 none 3 65 [.ref (o.1 0), .int x1, .int x2] h none h' := by
  refine Ct.of RX5 rfl (by decide +kernel) hA (Nat.le_of_ble_eq_true rfl) (fun p e s m args below meth c X => ?_)
  refine J_sub (lo' := [(0, .ref (o.1 0)), (1, .int x1), (2, .int x2)]) [0, 1, 2] rfl ?_
  rw [f_X5_lengthenFrom] at hf
  refine J_aload_n X 0 dX5_lengthenFrom_0 rfl rfl ?_
  refine J_get X hO.1 inX5 rfl 6 (Nat.le_of_ble_eq_true rfl) wd_174 rfl (v := .ref (o.1 34)) rfl dX5_lengthenFrom_1 ?_
  refine J_iload_n X 1 dX5_lengthenFrom_4 rfl rfl ?_
  obtain ⟨v1, qv1, hf⟩ := ob hf
  refine J_callS X (rest := []) (rs := [.int v1]) (c_X5_at l o emb A hA 34 9 hO.2.2.2.2.2.2.2.1 x1 h v1 qv1) wd_432 wd_255 wd_34 wd_256 hd_X5_at ⟨Nat.le_of_ble_eq_true rfl, Nat.le_of_ble_eq_true rfl⟩ ⟨Nat.zero_le _, Nat.zero_le _⟩ (Nat.le_of_ble_eq_true rfl) dX5_lengthenFrom_5 rfl rfl ?_
  refine J_istore_n X [(3, .int v1), (0, .ref (o.1 0)), (1, .int x1), (2, .int x2)] dX5_lengthenFrom_8 rfl (Nat.le_of_ble_eq_true rfl) rfl ?_
  refine J_iload_n X 0 dX5_lengthenFrom_9 rfl rfl ?_
  refine J_bipush X (-6 : Int32) dX5_lengthenFrom_10 (by decide) ?_
  refine J_icmp_ne (tgt := 16) X dX5_lengthenFrom_12 (by decide) (fun c12 => ?_) (fun c12 => ?_)
  · rw [if_neg c12] at hf
    refine J_const X (0 : Int32) dX5_lengthenFrom_16 (by decide) ?_
    refine J_istore X [(4, .int (0 : Int32)), (3, .int v1), (0, .ref (o.1 0)), (1, .int x1), (2, .int x2)] dX5_lengthenFrom_17 (Nat.le_of_ble_eq_true rfl) rfl ?_
    refine J_sub (lo' := [(0, .ref (o.1 0)), (1, .int x1), (2, .int x2), (3, .int v1), (4, .int (0 : Int32))]) [2, 3, 4, 1, 0] rfl ?_
    refine cf_X5_lengthenFrom_l19 hA X  hO x1 x2 v1 _ _ (0 : Int32) h hf (fun w14 h15 hf => ?_)
    cases hf
    exact J_vret X dX5_lengthenFrom_103
  · rw [if_pos c12] at hf
    cases hf
    exact J_vret X dX5_lengthenFrom_15
theorem hd_X5_leastWay : yX5_leastWay.cls ≠ "java/lang/invoke/MethodHandle" ∧ yX5_leastWay.cls ≠ "java/lang/invoke/VarHandle" ∧ (parseMethodDescriptor yX5_leastWay.desc).map (fun d => d.parameters.length) = some 3 := by decide +kernel
set_option maxHeartbeats 4000000 in
set_option maxRecDepth 100000 in
theorem cf_X5_leastWay_l31 {R : Type} (hA : ∀ h : Hp, va_D A (emb h)) (X : Cx p s m args meth c RX5 cX5_leastWay 6 (some .int) o)  (hO : isX5 o emb) (s2 : Int32) (s3 : Int32) (s4 : Int32) {kx : Int32 → Hp → Option R} (t : R) : ∀ (n : Nat) (s5 : Int32) (h : Hp), f_X5_leastWay_l31 s2 s3 s4 kx n s5 h = some t → (∀ (s5 : Int32) (h : Hp), kx s5 h = some t → J p l e (rmf 4 91) s m args below meth c 0 0 Z o emb A H0 6 51 [(0, .ref (o.1 0)), (2, .int s2), (3, .int s3), (4, .int s4)] [] h) → J p l e (rmf 4 91) s m args below meth c 0 0 Z o emb A H0 6 31 [(0, .ref (o.1 0)), (2, .int s2), (3, .int s3), (4, .int s4), (5, .int s5)] [] h := by
  intro n
  induction n with
  | zero =>
    intro s5 h hf hk
    cases hf
  | succ n ih =>
    intro s5 h hf hk
    rw [f_X5_leastWay_l31] at hf
    refine J_iload X 4 dX5_leastWay_31 rfl ?_
    refine J_bipush X (9 : Int32) dX5_leastWay_33 (by decide) ?_
    refine J_icmp_ge (tgt := 51) X dX5_leastWay_35 (by decide) (fun c35 => ?_) (fun c35 => ?_)
    · rw [if_pos c35] at hf
      exact J_sub [0, 1, 2, 3] rfl (hk s5 h hf)
    · rw [if_neg c35] at hf
      refine J_aload_n X 0 dX5_leastWay_38 rfl rfl ?_
      refine J_iload X 4 dX5_leastWay_39 rfl ?_
      refine J_iload_n X 2 dX5_leastWay_41 rfl rfl ?_
      obtain ⟨h3, qh3, hf⟩ := ob hf
      refine J_callV X (rest := []) (rs := []) (c_X5_lengthenFrom l o emb A hA hO s5 s3 h h3 qh3) hO.1 rfl rfl wd_428 wd_430 wd_5 wd_34 wd_431 hd_X5_lengthenFrom ⟨Nat.le_of_ble_eq_true rfl, Nat.le_of_ble_eq_true rfl⟩ ⟨Nat.zero_le _, Nat.zero_le _⟩ (Nat.le_of_ble_eq_true rfl) dX5_leastWay_42 rfl rfl ?_
      obtain ⟨v4, qv4, hf⟩ := ob hf
      refine J_iinc X 4 [(5, .int v4), (0, .ref (o.1 0)), (2, .int s2), (3, .int s3), (4, .int s4)] dX5_leastWay_45 rfl (Option.some.inj qv4) (Nat.le_of_ble_eq_true rfl) rfl ?_
      refine J_goto (tgt := 31) X dX5_leastWay_48 (by decide) ?_
      exact J_sub [1, 2, 3, 4, 0] rfl (ih v4 h3 hf hk)
set_option maxHeartbeats 4000000 in
set_option maxRecDepth 100000 in
theorem cf_X5_leastWay_l21 {R : Type} (hA : ∀ h : Hp, va_D A (emb h)) (X : Cx p s m args meth c RX5 cX5_leastWay 6 (some .int) o)  (hO : isX5 o emb) (s2 : Int32) (s3 : Int32) {kx : Int32 → Hp → Option R} (t : R) : ∀ (n : Nat) (s4 : Int32) (h : Hp), f_X5_leastWay_l21 s2 s3 kx n s4 h = some t → (∀ (s4 : Int32) (h : Hp), kx s4 h = some t → J p l e (rmf 4 91) s m args below meth c 0 0 Z o emb A H0 6 57 [(0, .ref (o.1 0)), (2, .int s2)] [] h) → J p l e (rmf 4 91) s m args below meth c 0 0 Z o emb A H0 6 21 [(0, .ref (o.1 0)), (2, .int s2), (3, .int s3), (4, .int s4)] [] h := by
  intro n
  induction n with
  | zero =>
    intro s4 h hf hk
    cases hf
  | succ n ih =>
    intro s4 h hf hk
    rw [f_X5_leastWay_l21] at hf
    refine J_iload X 3 dX5_leastWay_21 rfl ?_
    refine J_bipush X (9 : Int32) dX5_leastWay_23 (by decide) ?_
    refine J_icmp_ge (tgt := 57) X dX5_leastWay_25 (by decide) (fun c25 => ?_) (fun c25 => ?_)
    · rw [if_pos c25] at hf
      exact J_sub [0, 1] rfl (hk s4 h hf)
    · rw [if_neg c25] at hf
      refine J_const X (0 : Int32) dX5_leastWay_28 (by decide) ?_
      refine J_istore X [(5, .int (0 : Int32)), (0, .ref (o.1 0)), (2, .int s2), (3, .int s3), (4, .int s4)] dX5_leastWay_29 (Nat.le_of_ble_eq_true rfl) rfl ?_
      refine J_sub (lo' := [(0, .ref (o.1 0)), (2, .int s2), (3, .int s3), (4, .int s4), (5, .int (0 : Int32))]) [1, 2, 3, 4, 0] rfl ?_
      refine cf_X5_leastWay_l31 hA X  hO s2 s3 s4 _ _ (0 : Int32) h hf (fun w5 h6 hf => ?_)
      obtain ⟨v7, qv7, hf⟩ := ob hf
      refine J_iinc X 3 [(4, .int v7), (0, .ref (o.1 0)), (2, .int s2), (3, .int s3)] dX5_leastWay_51 rfl (Option.some.inj qv7) (Nat.le_of_ble_eq_true rfl) rfl ?_
      refine J_goto (tgt := 21) X dX5_leastWay_54 (by decide) ?_
      exact J_sub [1, 2, 3, 0] rfl (ih v7 h6 hf hk)
set_option maxHeartbeats 4000000 in
set_option maxRecDepth 100000 in
theorem c_X5_leastWay (l : Launch) (o : Om) (emb : Hp → va_W) (A : Nat → Prop) (hA : ∀ h : Hp, va_D A (emb h)) (hO : isX5 o emb) (x1 : Int32) (x2 : Int32) (x3 : Int32) (h : Hp) (r : Int32) (h' : Hp) (hf : f_X5_leastWay x1 x2 x3 h = some (r, h')) : Ct l o emb A yX5_leastWay cX5_leastWay 6 (some .int) 4 91 [.ref (o.1 0), .int x1, .int x2, .int x3] h (some (.int r)) h' := by
  refine Ct.of RX5 rfl (by decide +kernel) hA (Nat.le_of_ble_eq_true rfl) (fun p e s m args below meth c X => ?_)
  refine J_sub (lo' := [(0, .ref (o.1 0)), (1, .int x1), (2, .int x2), (3, .int x3)]) [0, 1, 2, 3] rfl ?_
  rw [f_X5_leastWay] at hf
  refine J_aload_n X 0 dX5_leastWay_0 rfl rfl ?_
  refine J_get X hO.1 inX5 rfl 6 (Nat.le_of_ble_eq_true rfl) wd_174 rfl (v := .ref (o.1 34)) rfl dX5_leastWay_1 ?_
  refine J_bipush X (-6 : Int32) dX5_leastWay_4 (by decide) ?_
  obtain ⟨h1, qh1, hf⟩ := ob hf
  refine J_callS X (rest := []) (rs := []) (c_J7_fill_53178 l o emb A hA 34 9 hO.2.2.2.2.2.2.2.1 (-6 : Int32) h h1 qh1) wd_426 wd_59 wd_36 wd_60 hd_J7_fill_53178 ⟨Nat.le_of_ble_eq_true rfl, Nat.le_of_ble_eq_true rfl⟩ ⟨Nat.zero_le _, Nat.zero_le _⟩ (Nat.le_of_ble_eq_true rfl) dX5_leastWay_6 rfl rfl ?_
  refine J_aload_n X 0 dX5_leastWay_9 rfl rfl ?_
  refine J_get X hO.1 inX5 rfl 6 (Nat.le_of_ble_eq_true rfl) wd_174 rfl (v := .ref (o.1 34)) rfl dX5_leastWay_10 ?_
  refine J_iload_n X 1 dX5_leastWay_13 rfl rfl ?_
  refine J_const X (0 : Int32) dX5_leastWay_14 (by decide) ?_
  obtain ⟨h2, qh2, hf⟩ := ob hf
  refine J_callS X (rest := []) (rs := []) (c_X5_put l o emb A hA 34 9 hO.2.2.2.2.2.2.2.1 x1 (0 : Int32) h1 h2 qh2) wd_427 wd_225 wd_34 wd_226 hd_X5_put ⟨Nat.le_of_ble_eq_true rfl, Nat.le_of_ble_eq_true rfl⟩ ⟨Nat.zero_le _, Nat.zero_le _⟩ (Nat.le_of_ble_eq_true rfl) dX5_leastWay_15 rfl rfl ?_
  refine J_const X (1 : Int32) dX5_leastWay_18 (by decide) ?_
  refine J_istore X [(4, .int (1 : Int32)), (0, .ref (o.1 0)), (1, .int x1), (2, .int x2), (3, .int x3)] dX5_leastWay_19 (Nat.le_of_ble_eq_true rfl) rfl ?_
  refine J_sub (lo' := [(0, .ref (o.1 0)), (2, .int x2), (3, .int x3), (4, .int (1 : Int32))]) [1, 3, 4, 0] rfl ?_
  refine cf_X5_leastWay_l21 hA X  hO x2 x3 _ _ (1 : Int32) h2 hf (fun w8 h9 hf => ?_)
  refine J_aload_n X 0 dX5_leastWay_57 rfl rfl ?_
  refine J_get X hO.1 inX5 rfl 6 (Nat.le_of_ble_eq_true rfl) wd_174 rfl (v := .ref (o.1 34)) rfl dX5_leastWay_58 ?_
  refine J_iload_n X 1 dX5_leastWay_61 rfl rfl ?_
  obtain ⟨v10, qv10, hf⟩ := ob hf
  refine J_callS X (rest := []) (rs := [.int v10]) (c_X5_at l o emb A hA 34 9 hO.2.2.2.2.2.2.2.1 x2 h9 v10 qv10) wd_432 wd_255 wd_34 wd_256 hd_X5_at ⟨Nat.le_of_ble_eq_true rfl, Nat.le_of_ble_eq_true rfl⟩ ⟨Nat.zero_le _, Nat.zero_le _⟩ (Nat.le_of_ble_eq_true rfl) dX5_leastWay_62 rfl rfl ?_
  cases hf
  exact J_iret X dX5_leastWay_65
theorem hd_X5_way : yX5_way.cls ≠ "java/lang/invoke/MethodHandle" ∧ yX5_way.cls ≠ "java/lang/invoke/VarHandle" ∧ (parseMethodDescriptor yX5_way.desc).map (fun d => d.parameters.length) = some 3 := by decide +kernel
set_option maxHeartbeats 4000000 in
set_option maxRecDepth 100000 in
theorem c_X5_way (l : Launch) (o : Om) (emb : Hp → va_W) (A : Nat → Prop) (hA : ∀ h : Hp, va_D A (emb h)) (hO : isX5 o emb) (x1 : Int32) (x2 : Int32) (x3 : Int32) (h : Hp) (r : Int32) (h' : Hp) (hf : f_X5_way x1 x2 x3 h = some (r, h')) : Ct l o emb A yX5_way cX5_way 4 (some .int) 5 116 [.ref (o.1 0), .int x1, .int x2, .int x3] h (some (.int r)) h' := by
  refine Ct.of RX5 rfl (by decide +kernel) hA (Nat.le_of_ble_eq_true rfl) (fun p e s m args below meth c X => ?_)
  refine J_sub (lo' := [(0, .ref (o.1 0)), (1, .int x1), (2, .int x2), (3, .int x3)]) [0, 1, 2, 3] rfl ?_
  rw [f_X5_way] at hf
  refine J_iload_n X 1 dX5_way_0 rfl rfl ?_
  obtain ⟨v1, qv1, hf⟩ := ob hf
  refine J_callS X (rest := []) (rs := [.int v1]) (c_X5_isPlace l o emb A hA x1 h v1 qv1) wd_238 wd_239 wd_34 wd_240 hd_X5_isPlace ⟨Nat.le_of_ble_eq_true rfl, Nat.le_of_ble_eq_true rfl⟩ ⟨Nat.zero_le _, Nat.zero_le _⟩ (Nat.le_of_ble_eq_true rfl) dX5_way_1 rfl rfl ?_
  refine J_if_eq (tgt := 14) X dX5_way_4 (by decide) (fun c4 => ?_) (fun c4 => ?_)
  · rw [if_pos c4] at hf
    refine J_const X (-1 : Int32) dX5_way_14 (by decide) ?_
    cases hf
    exact J_iret X dX5_way_15
  · rw [if_neg c4] at hf
    refine J_iload_n X 2 dX5_way_7 rfl rfl ?_
    obtain ⟨v2, qv2, hf⟩ := ob hf
    refine J_callS X (rest := []) (rs := [.int v2]) (c_X5_isPlace l o emb A hA x2 h v2 qv2) wd_238 wd_239 wd_34 wd_240 hd_X5_isPlace ⟨Nat.le_of_ble_eq_true rfl, Nat.le_of_ble_eq_true rfl⟩ ⟨Nat.zero_le _, Nat.zero_le _⟩ (Nat.le_of_ble_eq_true rfl) dX5_way_8 rfl rfl ?_
    refine J_if_ne (tgt := 16) X dX5_way_11 (by decide) (fun c11 => ?_) (fun c11 => ?_)
    · rw [if_neg c11] at hf
      refine J_iload_n X 3 dX5_way_16 rfl rfl ?_
      refine J_const X (0 : Int32) dX5_way_17 (by decide) ?_
      refine J_const X (1 : Int32) dX5_way_18 (by decide) ?_
      obtain ⟨v3, qv3, hf⟩ := ob hf
      refine J_callS X (rest := []) (rs := [.int v3]) (c_X5_within l o emb A hA x3 (0 : Int32) (1 : Int32) h v3 qv3) wd_216 wd_217 wd_34 wd_218 hd_X5_within ⟨Nat.le_of_ble_eq_true rfl, Nat.le_of_ble_eq_true rfl⟩ ⟨Nat.zero_le _, Nat.zero_le _⟩ (Nat.le_of_ble_eq_true rfl) dX5_way_19 rfl rfl ?_
      refine J_if_ne (tgt := 28) X dX5_way_22 (by decide) (fun c22 => ?_) (fun c22 => ?_)
      · rw [if_neg c22] at hf
        refine J_aload_n X 0 dX5_way_28 rfl rfl ?_
        refine J_iload_n X 1 dX5_way_29 rfl rfl ?_
        refine J_iload_n X 2 dX5_way_30 rfl rfl ?_
        refine J_iload_n X 3 dX5_way_31 rfl rfl ?_
        refine J_const X (1 : Int32) dX5_way_32 (by decide) ?_
        refine J_icmp_ne (tgt := 40) X dX5_way_33 (by decide) (fun c33 => ?_) (fun c33 => ?_)
        · rw [if_neg c33] at hf
          refine J_const X (0 : Int32) dX5_way_40 (by decide) ?_
          obtain ⟨t4, qt4, hf⟩ := ob hf
          refine J_callV X (rest := []) (rs := [.int t4.1]) (c_X5_leastWay l o emb A hA hO x1 x2 (0 : Int32) h t4.1 t4.2 qt4) hO.1 rfl rfl wd_422 wd_424 wd_4 wd_34 wd_425 hd_X5_leastWay ⟨Nat.le_of_ble_eq_true rfl, Nat.le_of_ble_eq_true rfl⟩ ⟨Nat.zero_le _, Nat.zero_le _⟩ (Nat.le_of_ble_eq_true rfl) dX5_way_41 rfl rfl ?_
          cases hf
          exact J_iret X dX5_way_44
        · rw [if_pos c33] at hf
          refine J_const X (1 : Int32) dX5_way_36 (by decide) ?_
          refine J_goto (tgt := 41) X dX5_way_37 (by decide) ?_
          obtain ⟨t5, qt5, hf⟩ := ob hf
          refine J_callV X (rest := []) (rs := [.int t5.1]) (c_X5_leastWay l o emb A hA hO x1 x2 (1 : Int32) h t5.1 t5.2 qt5) hO.1 rfl rfl wd_422 wd_424 wd_4 wd_34 wd_425 hd_X5_leastWay ⟨Nat.le_of_ble_eq_true rfl, Nat.le_of_ble_eq_true rfl⟩ ⟨Nat.zero_le _, Nat.zero_le _⟩ (Nat.le_of_ble_eq_true rfl) dX5_way_41 rfl rfl ?_
          cases hf
          exact J_iret X dX5_way_44
      · rw [if_pos c22] at hf
        refine J_bipush X (-2 : Int32) dX5_way_25 (by decide) ?_
        cases hf
        exact J_iret X dX5_way_27
    · rw [if_pos c11] at hf
      refine J_const X (-1 : Int32) dX5_way_14 (by decide) ?_
      cases hf
      exact J_iret X dX5_way_15
theorem hd_X5_parts : yX5_parts.cls ≠ "java/lang/invoke/MethodHandle" ∧ yX5_parts.cls ≠ "java/lang/invoke/VarHandle" ∧ (parseMethodDescriptor yX5_parts.desc).map (fun d => d.parameters.length) = some 1 := by decide +kernel
set_option maxHeartbeats 4000000 in
set_option maxRecDepth 100000 in
theorem cf_X5_parts_l33 {R : Type} (hA : ∀ h : Hp, va_D A (emb h)) (X : Cx p s m args meth c RX5 cX5_parts 6 (some .int) o)  (hO : isX5 o emb) (s1 : Int32) (s4 : Int32) (h : Hp) {kx : Int32 → Int32 → Int32 → Option R} (t : R) : ∀ (n : Nat) (s2 : Int32) (s3 : Int32) (s5 : Int32), f_X5_parts_l33 s1 s4 h kx n s2 s3 s5 = some t → (∀ (s2 : Int32) (s3 : Int32) (s5 : Int32), kx s2 s3 s5 = some t → J p l e (rmf 5 113) s m args below meth c 0 0 Z o emb A H0 6 98 [(0, .ref (o.1 0)), (1, .int s1), (2, .int s2), (3, .int s3), (4, .int s4)] [] h) → J p l e (rmf 5 113) s m args below meth c 0 0 Z o emb A H0 6 33 [(0, .ref (o.1 0)), (1, .int s1), (2, .int s2), (3, .int s3), (4, .int s4), (5, .int s5)] [] h := by
  intro n
  induction n with
  | zero =>
    intro s2 s3 s5 hf hk
    cases hf
  | succ n ih =>
    intro s2 s3 s5 hf hk
    rw [f_X5_parts_l33] at hf
    refine J_iload X 5 dX5_parts_33 rfl ?_
    refine J_bipush X (9 : Int32) dX5_parts_35 (by decide) ?_
    refine J_icmp_ge (tgt := 98) X dX5_parts_37 (by decide) (fun c37 => ?_) (fun c37 => ?_)
    · rw [if_pos c37] at hf
      exact J_sub [0, 1, 2, 3, 4] rfl (hk s2 s3 s5 hf)
    · rw [if_neg c37] at hf
      refine J_aload_n X 0 dX5_parts_40 rfl rfl ?_
      refine J_get X hO.1 inX5 rfl 0 (Nat.le_of_ble_eq_true rfl) wd_168 rfl (v := .ref (o.1 1)) rfl dX5_parts_41 ?_
      refine J_iload X 4 dX5_parts_44 rfl ?_
      refine J_iload X 5 dX5_parts_46 rfl ?_
      obtain ⟨v3, qv3, hf⟩ := ob hf
      refine J_callV X (rest := []) (rs := [.int v3]) (c_X2_isOpen l o emb A hA 1 hO.2.1 s4 s5 h v3 qv3) hO.2.1.1 rfl rfl wd_433 wd_415 wd_416 wd_35 wd_417 hd_X2_isOpen ⟨Nat.le_of_ble_eq_true rfl, Nat.le_of_ble_eq_true rfl⟩ ⟨Nat.zero_le _, Nat.zero_le _⟩ (Nat.le_of_ble_eq_true rfl) dX5_parts_48 rfl rfl ?_
      refine J_if_eq (tgt := 92) X dX5_parts_51 (by decide) (fun c51 => ?_) (fun c51 => ?_)
      · rw [if_pos c51] at hf
        obtain ⟨v4, qv4, hf⟩ := ob hf
        refine J_iinc X 5 [(5, .int v4), (0, .ref (o.1 0)), (1, .int s1), (2, .int s2), (3, .int s3), (4, .int s4)] dX5_parts_92 rfl (Option.some.inj qv4) (Nat.le_of_ble_eq_true rfl) rfl ?_
        refine J_goto (tgt := 33) X dX5_parts_95 (by decide) ?_
        exact J_sub [1, 2, 3, 4, 5, 0] rfl (ih s2 s3 v4 hf hk)
      · rw [if_neg c51] at hf
        refine J_aload_n X 0 dX5_parts_54 rfl rfl ?_
        refine J_get X hO.1 inX5 rfl 0 (Nat.le_of_ble_eq_true rfl) wd_168 rfl (v := .ref (o.1 1)) rfl dX5_parts_55 ?_
        refine J_iload X 4 dX5_parts_58 rfl ?_
        refine J_const X (1 : Int32) dX5_parts_60 (by decide) ?_
        refine J_iload X 5 dX5_parts_61 rfl ?_
        refine J_ishl X dX5_parts_63 ?_
        obtain ⟨v5, qv5, hf⟩ := ob hf
        refine J_callV X (rest := []) (rs := [.int v5]) (c_X2_reached l o emb A hA 1 hO.2.1 s4 ((1 : Int32) <<< (s5 &&& 31)) h v5 qv5) hO.2.1.1 rfl rfl wd_438 wd_439 wd_440 wd_35 wd_441 hd_X2_reached ⟨Nat.le_of_ble_eq_true rfl, Nat.le_of_ble_eq_true rfl⟩ ⟨Nat.zero_le _, Nat.zero_le _⟩ (Nat.le_of_ble_eq_true rfl) dX5_parts_64 rfl rfl ?_
        refine J_iload X 5 dX5_parts_67 rfl ?_
        obtain ⟨v6, qv6, hf⟩ := ob hf
        refine J_callS X (rest := []) (rs := [.int v6]) (c_X5_holds l o emb A hA v5 s5 h v6 qv6) wd_445 wd_443 wd_34 wd_444 hd_X5_holds ⟨Nat.le_of_ble_eq_true rfl, Nat.le_of_ble_eq_true rfl⟩ ⟨Nat.zero_le _, Nat.zero_le _⟩ (Nat.le_of_ble_eq_true rfl) dX5_parts_69 rfl rfl ?_
        refine J_if_ne (tgt := 92) X dX5_parts_72 (by decide) (fun c72 => ?_) (fun c72 => ?_)
        · rw [if_neg c72] at hf
          obtain ⟨v7, qv7, hf⟩ := ob hf
          refine J_iinc X 5 [(5, .int v7), (0, .ref (o.1 0)), (1, .int s1), (2, .int s2), (3, .int s3), (4, .int s4)] dX5_parts_92 rfl (Option.some.inj qv7) (Nat.le_of_ble_eq_true rfl) rfl ?_
          refine J_goto (tgt := 33) X dX5_parts_95 (by decide) ?_
          exact J_sub [1, 2, 3, 4, 5, 0] rfl (ih s2 s3 v7 hf hk)
        · rw [if_pos c72] at hf
          obtain ⟨v8, qv8, hf⟩ := ob hf
          refine J_iinc X 2 [(2, .int v8), (0, .ref (o.1 0)), (1, .int s1), (3, .int s3), (4, .int s4), (5, .int s5)] dX5_parts_75 rfl (Option.some.inj qv8) (Nat.le_of_ble_eq_true rfl) rfl ?_
          refine J_iload_n X 3 dX5_parts_78 rfl rfl ?_
          refine J_bipush X (-6 : Int32) dX5_parts_79 (by decide) ?_
          refine J_icmp_ne (tgt := 92) X dX5_parts_81 (by decide) (fun c81 => ?_) (fun c81 => ?_)
          · rw [if_neg c81] at hf
            obtain ⟨v9, qv9, hf⟩ := ob hf
            refine J_iinc X 5 [(5, .int v9), (2, .int v8), (0, .ref (o.1 0)), (1, .int s1), (3, .int s3), (4, .int s4)] dX5_parts_92 rfl (Option.some.inj qv9) (Nat.le_of_ble_eq_true rfl) rfl ?_
            refine J_goto (tgt := 33) X dX5_parts_95 (by decide) ?_
            exact J_sub [2, 3, 1, 4, 5, 0] rfl (ih v8 s3 v9 hf hk)
          · rw [if_pos c81] at hf
            refine J_iload X 4 dX5_parts_84 rfl ?_
            refine J_iload X 5 dX5_parts_86 rfl ?_
            obtain ⟨v10, qv10, hf⟩ := ob hf
            refine J_callS X (rest := []) (rs := [.int v10]) (c_X5_nameOfRoad l o emb A hA s4 s5 h v10 qv10) wd_446 wd_350 wd_34 wd_351 hd_X5_nameOfRoad ⟨Nat.le_of_ble_eq_true rfl, Nat.le_of_ble_eq_true rfl⟩ ⟨Nat.zero_le _, Nat.zero_le _⟩ (Nat.le_of_ble_eq_true rfl) dX5_parts_88 rfl rfl ?_
            refine J_istore_n X [(3, .int v10), (2, .int v8), (0, .ref (o.1 0)), (1, .int s1), (4, .int s4), (5, .int s5)] dX5_parts_91 rfl (Nat.le_of_ble_eq_true rfl) rfl ?_
            obtain ⟨v11, qv11, hf⟩ := ob hf
            refine J_iinc X 5 [(5, .int v11), (3, .int v10), (2, .int v8), (0, .ref (o.1 0)), (1, .int s1), (4, .int s4)] dX5_parts_92 rfl (Option.some.inj qv11) (Nat.le_of_ble_eq_true rfl) rfl ?_
            refine J_goto (tgt := 33) X dX5_parts_95 (by decide) ?_
            exact J_sub [3, 4, 2, 1, 5, 0] rfl (ih v8 v10 v11 hf hk)
set_option maxHeartbeats 4000000 in
set_option maxRecDepth 100000 in
theorem cf_X5_parts_l20 {R : Type} (hA : ∀ h : Hp, va_D A (emb h)) (X : Cx p s m args meth c RX5 cX5_parts 6 (some .int) o)  (hO : isX5 o emb) (s1 : Int32) (h : Hp) {kx : Int32 → Int32 → Int32 → Option R} (t : R) : ∀ (n : Nat) (s2 : Int32) (s3 : Int32) (s4 : Int32), f_X5_parts_l20 s1 h kx n s2 s3 s4 = some t → (∀ (s2 : Int32) (s3 : Int32) (s4 : Int32), kx s2 s3 s4 = some t → J p l e (rmf 5 113) s m args below meth c 0 0 Z o emb A H0 6 104 [(1, .int s1), (2, .int s2), (3, .int s3)] [] h) → J p l e (rmf 5 113) s m args below meth c 0 0 Z o emb A H0 6 20 [(0, .ref (o.1 0)), (1, .int s1), (2, .int s2), (3, .int s3), (4, .int s4)] [] h := by
  intro n
  induction n with
  | zero =>
    intro s2 s3 s4 hf hk
    cases hf
  | succ n ih =>
    intro s2 s3 s4 hf hk
    rw [f_X5_parts_l20] at hf
    refine J_iload X 4 dX5_parts_20 rfl ?_
    refine J_bipush X (9 : Int32) dX5_parts_22 (by decide) ?_
    refine J_icmp_ge (tgt := 104) X dX5_parts_24 (by decide) (fun c24 => ?_) (fun c24 => ?_)
    · rw [if_pos c24] at hf
      exact J_sub [1, 2, 3] rfl (hk s2 s3 s4 hf)
    · rw [if_neg c24] at hf
      refine J_iload X 4 dX5_parts_27 rfl ?_
      refine J_const X (1 : Int32) dX5_parts_29 (by decide) ?_
      refine J_iadd X dX5_parts_30 ?_
      obtain ⟨v2, qv2, hf⟩ := ob hf
      refine J_topi v2 (Option.some.inj qv2) ?_
      refine J_istore X [(5, .int v2), (0, .ref (o.1 0)), (1, .int s1), (2, .int s2), (3, .int s3), (4, .int s4)] dX5_parts_31 (Nat.le_of_ble_eq_true rfl) rfl ?_
      refine J_sub (lo' := [(0, .ref (o.1 0)), (1, .int s1), (2, .int s2), (3, .int s3), (4, .int s4), (5, .int v2)]) [1, 2, 3, 4, 5, 0] rfl ?_
      refine cf_X5_parts_l33 hA X  hO s1 s4 h _ _ s2 s3 v2 hf (fun w12 w13 w14 hf => ?_)
      obtain ⟨v15, qv15, hf⟩ := ob hf
      refine J_iinc X 4 [(4, .int v15), (0, .ref (o.1 0)), (1, .int s1), (2, .int w12), (3, .int w13)] dX5_parts_98 rfl (Option.some.inj qv15) (Nat.le_of_ble_eq_true rfl) rfl ?_
      refine J_goto (tgt := 20) X dX5_parts_101 (by decide) ?_
      exact J_sub [1, 2, 3, 4, 0] rfl (ih w12 w13 v15 hf hk)
set_option maxHeartbeats 4000000 in
set_option maxRecDepth 100000 in
theorem c_X5_parts (l : Launch) (o : Om) (emb : Hp → va_W) (A : Nat → Prop) (hA : ∀ h : Hp, va_D A (emb h)) (hO : isX5 o emb) (x1 : Int32) (h : Hp) (r : Int32) (hf : f_X5_parts x1 h = some r) : Ct l o emb A yX5_parts cX5_parts 6 (some .int) 5 113 [.ref (o.1 0), .int x1] h (some (.int r)) h := by
  refine Ct.of RX5 rfl (by decide +kernel) hA (Nat.le_of_ble_eq_true rfl) (fun p e s m args below meth c X => ?_)
  refine J_sub (lo' := [(0, .ref (o.1 0)), (1, .int x1)]) [0, 1] rfl ?_
  rw [f_X5_parts] at hf
  refine J_iload_n X 1 dX5_parts_0 rfl rfl ?_
  refine J_const X (0 : Int32) dX5_parts_1 (by decide) ?_
  refine J_const X (1 : Int32) dX5_parts_2 (by decide) ?_
  obtain ⟨v1, qv1, hf⟩ := ob hf
  refine J_callS X (rest := []) (rs := [.int v1]) (c_X5_within l o emb A hA x1 (0 : Int32) (1 : Int32) h v1 qv1) wd_216 wd_217 wd_34 wd_218 hd_X5_within ⟨Nat.le_of_ble_eq_true rfl, Nat.le_of_ble_eq_true rfl⟩ ⟨Nat.zero_le _, Nat.zero_le _⟩ (Nat.le_of_ble_eq_true rfl) dX5_parts_3 rfl rfl ?_
  refine J_if_ne (tgt := 12) X dX5_parts_6 (by decide) (fun c6 => ?_) (fun c6 => ?_)
  · rw [if_neg c6] at hf
    refine J_const X (0 : Int32) dX5_parts_12 (by decide) ?_
    refine J_istore_n X [(2, .int (0 : Int32)), (0, .ref (o.1 0)), (1, .int x1)] dX5_parts_13 rfl (Nat.le_of_ble_eq_true rfl) rfl ?_
    refine J_bipush X (-6 : Int32) dX5_parts_14 (by decide) ?_
    refine J_istore_n X [(3, .int (-6 : Int32)), (2, .int (0 : Int32)), (0, .ref (o.1 0)), (1, .int x1)] dX5_parts_16 rfl (Nat.le_of_ble_eq_true rfl) rfl ?_
    refine J_const X (0 : Int32) dX5_parts_17 (by decide) ?_
    refine J_istore X [(4, .int (0 : Int32)), (3, .int (-6 : Int32)), (2, .int (0 : Int32)), (0, .ref (o.1 0)), (1, .int x1)] dX5_parts_18 (Nat.le_of_ble_eq_true rfl) rfl ?_
    refine J_sub (lo' := [(0, .ref (o.1 0)), (1, .int x1), (2, .int (0 : Int32)), (3, .int (-6 : Int32)), (4, .int (0 : Int32))]) [3, 4, 2, 1, 0] rfl ?_
    refine cf_X5_parts_l20 hA X  hO x1 h _ _ (0 : Int32) (-6 : Int32) (0 : Int32) hf (fun w16 w17 w18 hf => ?_)
    refine J_iload_n X 0 dX5_parts_104 rfl rfl ?_
    refine J_if_ne (tgt := 112) X dX5_parts_105 (by decide) (fun c105 => ?_) (fun c105 => ?_)
    · rw [if_neg c105] at hf
      refine J_iload_n X 2 dX5_parts_112 rfl rfl ?_
      cases hf
      exact J_iret X dX5_parts_113
    · rw [if_pos c105] at hf
      refine J_iload_n X 1 dX5_parts_108 rfl rfl ?_
      refine J_goto (tgt := 113) X dX5_parts_109 (by decide) ?_
      cases hf
      exact J_iret X dX5_parts_113
  · rw [if_pos c6] at hf
    refine J_bipush X (-2 : Int32) dX5_parts_9 (by decide) ?_
    cases hf
    exact J_iret X dX5_parts_11
theorem hd_X5_walksWithin : yX5_walksWithin.cls ≠ "java/lang/invoke/MethodHandle" ∧ yX5_walksWithin.cls ≠ "java/lang/invoke/VarHandle" ∧ (parseMethodDescriptor yX5_walksWithin.desc).map (fun d => d.parameters.length) = some 1 := by decide +kernel
set_option maxHeartbeats 4000000 in
set_option maxRecDepth 100000 in
theorem cf_X5_walksWithin_l7 {R : Type} (hA : ∀ h : Hp, va_D A (emb h)) (X : Cx p s m args meth c RX5 cX5_walksWithin 6 (some .int) o)  (hO : isX5 o emb) (s1 : Int32) (h : Hp) {kx : Int32 → Int32 → Int32 → Option R} (t : R) : ∀ (n : Nat) (s2 : Int32) (s3 : Int32) (s4 : Int32), f_X5_walksWithin_l7 s1 h kx n s2 s3 s4 = some t → (∀ (s2 : Int32) (s3 : Int32) (s4 : Int32), kx s2 s3 s4 = some t → J p l e (rmf 4 88) s m args below meth c 0 0 Z o emb A H0 6 55 [(2, .int s2), (3, .int s3)] [] h) → J p l e (rmf 4 88) s m args below meth c 0 0 Z o emb A H0 6 7 [(0, .ref (o.1 0)), (1, .int s1), (2, .int s2), (3, .int s3), (4, .int s4)] [] h := by
  intro n
  induction n with
  | zero =>
    intro s2 s3 s4 hf hk
    cases hf
  | succ n ih =>
    intro s2 s3 s4 hf hk
    rw [f_X5_walksWithin_l7] at hf
    refine J_iload X 4 dX5_walksWithin_7 rfl ?_
    refine J_bipush X (9 : Int32) dX5_walksWithin_9 (by decide) ?_
    refine J_icmp_ge (tgt := 55) X dX5_walksWithin_11 (by decide) (fun c11 => ?_) (fun c11 => ?_)
    · rw [if_pos c11] at hf
      exact J_sub [2, 3] rfl (hk s2 s3 s4 hf)
    · rw [if_neg c11] at hf
      refine J_iload_n X 1 dX5_walksWithin_14 rfl rfl ?_
      refine J_iload X 4 dX5_walksWithin_15 rfl ?_
      obtain ⟨v1, qv1, hf⟩ := ob hf
      refine J_callS X (rest := []) (rs := [.int v1]) (c_X5_holds l o emb A hA s1 s4 h v1 qv1) wd_445 wd_443 wd_34 wd_444 hd_X5_holds ⟨Nat.le_of_ble_eq_true rfl, Nat.le_of_ble_eq_true rfl⟩ ⟨Nat.zero_le _, Nat.zero_le _⟩ (Nat.le_of_ble_eq_true rfl) dX5_walksWithin_17 rfl rfl ?_
      refine J_if_eq (tgt := 49) X dX5_walksWithin_20 (by decide) (fun c20 => ?_) (fun c20 => ?_)
      · rw [if_pos c20] at hf
        obtain ⟨v2, qv2, hf⟩ := ob hf
        refine J_iinc X 4 [(4, .int v2), (0, .ref (o.1 0)), (1, .int s1), (2, .int s2), (3, .int s3)] dX5_walksWithin_49 rfl (Option.some.inj qv2) (Nat.le_of_ble_eq_true rfl) rfl ?_
        refine J_goto (tgt := 7) X dX5_walksWithin_52 (by decide) ?_
        exact J_sub [1, 2, 3, 4, 0] rfl (ih s2 s3 v2 hf hk)
      · rw [if_neg c20] at hf
        refine J_aload_n X 0 dX5_walksWithin_23 rfl rfl ?_
        refine J_get X hO.1 inX5 rfl 0 (Nat.le_of_ble_eq_true rfl) wd_168 rfl (v := .ref (o.1 1)) rfl dX5_walksWithin_24 ?_
        refine J_iload X 4 dX5_walksWithin_27 rfl ?_
        obtain ⟨v3, qv3, hf⟩ := ob hf
        refine J_callV X (rest := []) (rs := [.int v3]) (c_X2_openFrom l o emb A hA 1 hO.2.1 s4 h v3 qv3) hO.2.1.1 rfl rfl wd_455 wd_411 wd_412 wd_35 wd_413 hd_X2_openFrom ⟨Nat.le_of_ble_eq_true rfl, Nat.le_of_ble_eq_true rfl⟩ ⟨Nat.zero_le _, Nat.zero_le _⟩ (Nat.le_of_ble_eq_true rfl) dX5_walksWithin_29 rfl rfl ?_
        obtain ⟨v4, qv4, hf⟩ := ob hf
        refine J_callS X (rest := []) (rs := [.int v4]) (c_J6_bitCount_0f7a4 l o emb A hA v3 h v4 qv4) wd_257 wd_258 wd_42 wd_259 hd_J6_bitCount_0f7a4 ⟨Nat.le_of_ble_eq_true rfl, Nat.le_of_ble_eq_true rfl⟩ ⟨Nat.zero_le _, Nat.zero_le _⟩ (Nat.le_of_ble_eq_true rfl) dX5_walksWithin_32 rfl rfl ?_
        refine J_istore X [(5, .int v4), (0, .ref (o.1 0)), (1, .int s1), (2, .int s2), (3, .int s3), (4, .int s4)] dX5_walksWithin_35 (Nat.le_of_ble_eq_true rfl) rfl ?_
        refine J_iload_n X 3 dX5_walksWithin_37 rfl rfl ?_
        refine J_iload X 0 dX5_walksWithin_38 rfl ?_
        refine J_iadd X dX5_walksWithin_40 ?_
        obtain ⟨v5, qv5, hf⟩ := ob hf
        refine J_topi v5 (Option.some.inj qv5) ?_
        refine J_istore_n X [(2, .int v5), (5, .int v4), (0, .ref (o.1 0)), (1, .int s1), (3, .int s3), (4, .int s4)] dX5_walksWithin_41 rfl (Nat.le_of_ble_eq_true rfl) rfl ?_
        refine J_iload_n X 4 dX5_walksWithin_42 rfl rfl ?_
        refine J_iload X 1 dX5_walksWithin_43 rfl ?_
        refine J_const X (2 : Int32) dX5_walksWithin_45 (by decide) ?_
        refine J_irem X dX5_walksWithin_46 (by decide) ?_
        refine J_iadd X dX5_walksWithin_47 ?_
        obtain ⟨v6, qv6, hf⟩ := ob hf
        refine J_topi v6 (Option.some.inj qv6) ?_
        refine J_istore_n X [(3, .int v6), (2, .int v5), (5, .int v4), (0, .ref (o.1 0)), (1, .int s1), (4, .int s4)] dX5_walksWithin_48 rfl (Nat.le_of_ble_eq_true rfl) rfl ?_
        obtain ⟨v7, qv7, hf⟩ := ob hf
        refine J_iinc X 5 [(4, .int v7), (3, .int v6), (2, .int v5), (5, .int v4), (0, .ref (o.1 0)), (1, .int s1)] dX5_walksWithin_49 rfl (Option.some.inj qv7) (Nat.le_of_ble_eq_true rfl) rfl ?_
        refine J_goto (tgt := 7) X dX5_walksWithin_52 (by decide) ?_
        exact J_sub [4, 5, 2, 1, 0] rfl (ih v5 v6 v7 hf hk)
set_option maxHeartbeats 4000000 in
set_option maxRecDepth 100000 in
theorem c_X5_walksWithin (l : Launch) (o : Om) (emb : Hp → va_W) (A : Nat → Prop) (hA : ∀ h : Hp, va_D A (emb h)) (hO : isX5 o emb) (x1 : Int32) (h : Hp) (r : Int32) (hf : f_X5_walksWithin x1 h = some r) : Ct l o emb A yX5_walksWithin cX5_walksWithin 6 (some .int) 4 88 [.ref (o.1 0), .int x1] h (some (.int r)) h := by
  refine Ct.of RX5 rfl (by decide +kernel) hA (Nat.le_of_ble_eq_true rfl) (fun p e s m args below meth c X => ?_)
  refine J_sub (lo' := [(0, .ref (o.1 0)), (1, .int x1)]) [0, 1] rfl ?_
  rw [f_X5_walksWithin] at hf
  refine J_const X (0 : Int32) dX5_walksWithin_0 (by decide) ?_
  refine J_istore_n X [(2, .int (0 : Int32)), (0, .ref (o.1 0)), (1, .int x1)] dX5_walksWithin_1 rfl (Nat.le_of_ble_eq_true rfl) rfl ?_
  refine J_const X (0 : Int32) dX5_walksWithin_2 (by decide) ?_
  refine J_istore_n X [(3, .int (0 : Int32)), (2, .int (0 : Int32)), (0, .ref (o.1 0)), (1, .int x1)] dX5_walksWithin_3 rfl (Nat.le_of_ble_eq_true rfl) rfl ?_
  refine J_const X (0 : Int32) dX5_walksWithin_4 (by decide) ?_
  refine J_istore X [(4, .int (0 : Int32)), (3, .int (0 : Int32)), (2, .int (0 : Int32)), (0, .ref (o.1 0)), (1, .int x1)] dX5_walksWithin_5 (Nat.le_of_ble_eq_true rfl) rfl ?_
  refine J_sub (lo' := [(0, .ref (o.1 0)), (1, .int x1), (2, .int (0 : Int32)), (3, .int (0 : Int32)), (4, .int (0 : Int32))]) [3, 4, 2, 1, 0] rfl ?_
  refine cf_X5_walksWithin_l7 hA X  hO x1 h _ _ (0 : Int32) (0 : Int32) (0 : Int32) hf (fun w8 w9 w10 hf => ?_)
  refine J_iload_n X 0 dX5_walksWithin_55 rfl rfl ?_
  refine J_if_ne (tgt := 61) X dX5_walksWithin_56 (by decide) (fun c56 => ?_) (fun c56 => ?_)
  · rw [if_neg c56] at hf
    refine J_const X (1 : Int32) dX5_walksWithin_61 (by decide) ?_
    refine J_iload_n X 1 dX5_walksWithin_62 rfl rfl ?_
    refine J_const X (2 : Int32) dX5_walksWithin_63 (by decide) ?_
    refine J_idiv X dX5_walksWithin_64 (by decide) ?_
    refine J_mmax X wd_355 wd_356 wd_43 wd_357 ⟨Nat.le_of_ble_eq_true rfl, Nat.le_of_ble_eq_true rfl, Nat.zero_le _, Nat.zero_le _⟩ dX5_walksWithin_65 ?_
    cases hf
    exact J_iret X dX5_walksWithin_68
  · rw [if_pos c56] at hf
    refine J_const X (0 : Int32) dX5_walksWithin_59 (by decide) ?_
    cases hf
    exact J_iret X dX5_walksWithin_60
theorem hd_X5_strokes : yX5_strokes.cls ≠ "java/lang/invoke/MethodHandle" ∧ yX5_strokes.cls ≠ "java/lang/invoke/VarHandle" ∧ (parseMethodDescriptor yX5_strokes.desc).map (fun d => d.parameters.length) = some 0 := by decide +kernel
set_option maxHeartbeats 4000000 in
set_option maxRecDepth 100000 in
theorem cf_X5_strokes_l6 {R : Type} (hA : ∀ h : Hp, va_D A (emb h)) (X : Cx p s m args meth c RX5 cX5_strokes 5 (some .int) o)  (hO : isX5 o emb)  (h : Hp) {kx : Int32 → Int32 → Int32 → Option R} (t : R) : ∀ (n : Nat) (s1 : Int32) (s2 : Int32) (s3 : Int32), f_X5_strokes_l6 h kx n s1 s2 s3 = some t → (∀ (s1 : Int32) (s2 : Int32) (s3 : Int32), kx s1 s2 s3 = some t → J p l e (rmf 5 113) s m args below meth c 0 0 Z o emb A H0 5 51 [(1, .int s1)] [] h) → J p l e (rmf 5 113) s m args below meth c 0 0 Z o emb A H0 5 6 [(0, .ref (o.1 0)), (1, .int s1), (2, .int s2), (3, .int s3)] [] h := by
  intro n
  induction n with
  | zero =>
    intro s1 s2 s3 hf hk
    cases hf
  | succ n ih =>
    intro s1 s2 s3 hf hk
    rw [f_X5_strokes_l6] at hf
    refine J_iload_n X 3 dX5_strokes_6 rfl rfl ?_
    refine J_bipush X (9 : Int32) dX5_strokes_7 (by decide) ?_
    refine J_icmp_ge (tgt := 51) X dX5_strokes_9 (by decide) (fun c9 => ?_) (fun c9 => ?_)
    · rw [if_pos c9] at hf
      exact J_sub [1] rfl (hk s1 s2 s3 hf)
    · rw [if_neg c9] at hf
      refine J_iload_n X 2 dX5_strokes_12 rfl rfl ?_
      refine J_iload_n X 3 dX5_strokes_13 rfl rfl ?_
      obtain ⟨v1, qv1, hf⟩ := ob hf
      refine J_callS X (rest := []) (rs := [.int v1]) (c_X5_holds l o emb A hA s2 s3 h v1 qv1) wd_445 wd_443 wd_34 wd_444 hd_X5_holds ⟨Nat.le_of_ble_eq_true rfl, Nat.le_of_ble_eq_true rfl⟩ ⟨Nat.zero_le _, Nat.zero_le _⟩ (Nat.le_of_ble_eq_true rfl) dX5_strokes_14 rfl rfl ?_
      refine J_if_ne (tgt := 45) X dX5_strokes_17 (by decide) (fun c17 => ?_) (fun c17 => ?_)
      · rw [if_neg c17] at hf
        obtain ⟨v2, qv2, hf⟩ := ob hf
        refine J_iinc X 3 [(3, .int v2), (0, .ref (o.1 0)), (1, .int s1), (2, .int s2)] dX5_strokes_45 rfl (Option.some.inj qv2) (Nat.le_of_ble_eq_true rfl) rfl ?_
        refine J_goto (tgt := 6) X dX5_strokes_48 (by decide) ?_
        exact J_sub [1, 2, 3, 0] rfl (ih s1 s2 v2 hf hk)
      · rw [if_pos c17] at hf
        refine J_aload_n X 0 dX5_strokes_20 rfl rfl ?_
        refine J_get X hO.1 inX5 rfl 0 (Nat.le_of_ble_eq_true rfl) wd_168 rfl (v := .ref (o.1 1)) rfl dX5_strokes_21 ?_
        refine J_iload_n X 3 dX5_strokes_24 rfl rfl ?_
        refine J_const X (0 : Int32) dX5_strokes_25 (by decide) ?_
        obtain ⟨v3, qv3, hf⟩ := ob hf
        refine J_callV X (rest := []) (rs := [.int v3]) (c_X2_reached l o emb A hA 1 hO.2.1 s3 (0 : Int32) h v3 qv3) hO.2.1.1 rfl rfl wd_438 wd_439 wd_440 wd_35 wd_441 hd_X2_reached ⟨Nat.le_of_ble_eq_true rfl, Nat.le_of_ble_eq_true rfl⟩ ⟨Nat.zero_le _, Nat.zero_le _⟩ (Nat.le_of_ble_eq_true rfl) dX5_strokes_26 rfl rfl ?_
        refine J_istore X [(4, .int v3), (0, .ref (o.1 0)), (1, .int s1), (2, .int s2), (3, .int s3)] dX5_strokes_29 (Nat.le_of_ble_eq_true rfl) rfl ?_
        refine J_iload_n X 3 dX5_strokes_31 rfl rfl ?_
        refine J_iload X 0 dX5_strokes_32 rfl ?_
        refine J_ior X dX5_strokes_34 ?_
        obtain ⟨v4, qv4, hf⟩ := ob hf
        refine J_topi v4 (Option.some.inj qv4) ?_
        refine J_istore_n X [(2, .int v4), (4, .int v3), (0, .ref (o.1 0)), (1, .int s1), (3, .int s3)] dX5_strokes_35 rfl (Nat.le_of_ble_eq_true rfl) rfl ?_
        refine J_iload_n X 3 dX5_strokes_36 rfl rfl ?_
        refine J_aload_n X 2 dX5_strokes_37 rfl rfl ?_
        refine J_iload X 1 dX5_strokes_38 rfl ?_
        obtain ⟨v5, qv5, hf⟩ := ob hf
        refine J_callV X (rest := [.int s1]) (rs := [.int v5, .int s1]) (c_X5_walksWithin l o emb A hA hO v3 h v5 qv5) hO.1 rfl rfl wd_451 wd_453 wd_6 wd_34 wd_454 hd_X5_walksWithin ⟨Nat.le_of_ble_eq_true rfl, Nat.le_of_ble_eq_true rfl⟩ ⟨Nat.zero_le _, Nat.zero_le _⟩ (Nat.le_of_ble_eq_true rfl) dX5_strokes_40 rfl rfl ?_
        refine J_iadd X dX5_strokes_43 ?_
        obtain ⟨v6, qv6, hf⟩ := ob hf
        refine J_topi v6 (Option.some.inj qv6) ?_
        refine J_istore_n X [(1, .int v6), (2, .int v4), (4, .int v3), (0, .ref (o.1 0)), (3, .int s3)] dX5_strokes_44 rfl (Nat.le_of_ble_eq_true rfl) rfl ?_
        obtain ⟨v7, qv7, hf⟩ := ob hf
        refine J_iinc X 4 [(3, .int v7), (1, .int v6), (2, .int v4), (4, .int v3), (0, .ref (o.1 0))] dX5_strokes_45 rfl (Option.some.inj qv7) (Nat.le_of_ble_eq_true rfl) rfl ?_
        refine J_goto (tgt := 6) X dX5_strokes_48 (by decide) ?_
        exact J_sub [4, 1, 2, 0] rfl (ih v6 v4 v7 hf hk)
set_option maxHeartbeats 4000000 in
set_option maxRecDepth 100000 in
theorem c_X5_strokes (l : Launch) (o : Om) (emb : Hp → va_W) (A : Nat → Prop) (hA : ∀ h : Hp, va_D A (emb h)) (hO : isX5 o emb) (h : Hp) (r : Int32) (hf : f_X5_strokes h = some r) : Ct l o emb A yX5_strokes cX5_strokes 5 (some .int) 5 113 [.ref (o.1 0)] h (some (.int r)) h := by
  refine Ct.of RX5 rfl (by decide +kernel) hA (Nat.le_of_ble_eq_true rfl) (fun p e s m args below meth c X => ?_)
  refine J_sub (lo' := [(0, .ref (o.1 0))]) [0] rfl ?_
  rw [f_X5_strokes] at hf
  refine J_const X (0 : Int32) dX5_strokes_0 (by decide) ?_
  refine J_istore_n X [(1, .int (0 : Int32)), (0, .ref (o.1 0))] dX5_strokes_1 rfl (Nat.le_of_ble_eq_true rfl) rfl ?_
  refine J_const X (0 : Int32) dX5_strokes_2 (by decide) ?_
  refine J_istore_n X [(2, .int (0 : Int32)), (1, .int (0 : Int32)), (0, .ref (o.1 0))] dX5_strokes_3 rfl (Nat.le_of_ble_eq_true rfl) rfl ?_
  refine J_const X (0 : Int32) dX5_strokes_4 (by decide) ?_
  refine J_istore_n X [(3, .int (0 : Int32)), (2, .int (0 : Int32)), (1, .int (0 : Int32)), (0, .ref (o.1 0))] dX5_strokes_5 rfl (Nat.le_of_ble_eq_true rfl) rfl ?_
  refine J_sub (lo' := [(0, .ref (o.1 0)), (1, .int (0 : Int32)), (2, .int (0 : Int32)), (3, .int (0 : Int32))]) [3, 2, 1, 0] rfl ?_
  refine cf_X5_strokes_l6 hA X  hO  h _ _ (0 : Int32) (0 : Int32) (0 : Int32) hf (fun w8 w9 w10 hf => ?_)
  refine J_iload_n X 0 dX5_strokes_51 rfl rfl ?_
  cases hf
  exact J_iret X dX5_strokes_52
theorem hd_X5_fillLoads : yX5_fillLoads.cls ≠ "java/lang/invoke/MethodHandle" ∧ yX5_fillLoads.cls ≠ "java/lang/invoke/VarHandle" ∧ (parseMethodDescriptor yX5_fillLoads.desc).map (fun d => d.parameters.length) = some 2 := by decide +kernel
set_option maxHeartbeats 4000000 in
set_option maxRecDepth 100000 in
theorem cf_X5_fillLoads_l13 {R : Type} (hA : ∀ h : Hp, va_D A (emb h)) (X : Cx p s m args meth c RX5 cX5_fillLoads 6 none o)  (hO : isX5 o emb) (s1 : Int32) (s2 : Int32) (s3 : Int32) (h0 : Hp) {kx : Int32 → Int32 → Option R} (t : R) : ∀ (n : Nat) (s4 : Int32) (s5 : Int32), f_X5_fillLoads_l13 s1 s2 s3 kx n s4 s5 = some t → (∀ (s4 : Int32) (s5 : Int32), kx s4 s5 = some t → J p l e (rmf 1 23) s m args below meth c 0 0 Z o emb A H0 6 46 [(0, .ref (o.1 0)), (1, .int s1), (2, .int s2), (3, .int s3), (4, .int s4)] [] h0) → J p l e (rmf 1 23) s m args below meth c 0 0 Z o emb A H0 6 13 [(0, .ref (o.1 0)), (1, .int s1), (2, .int s2), (3, .int s3), (4, .int s4), (5, .int s5)] [] h0 := by
  intro n
  induction n with
  | zero =>
    intro s4 s5 hf hk
    cases hf
  | succ n ih =>
    intro s4 s5 hf hk
    rw [f_X5_fillLoads_l13] at hf
    refine J_iload X 5 dX5_fillLoads_13 rfl ?_
    refine J_bipush X (8 : Int32) dX5_fillLoads_15 (by decide) ?_
    refine J_icmp_ge (tgt := 46) X dX5_fillLoads_17 (by decide) (fun c17 => ?_) (fun c17 => ?_)
    · rw [if_pos c17] at hf
      exact J_sub [0, 1, 2, 3, 4] rfl (hk s4 s5 hf)
    · rw [if_neg c17] at hf
      refine J_iload_n X 3 dX5_fillLoads_20 rfl rfl ?_
      refine J_iload X 5 dX5_fillLoads_21 rfl ?_
      obtain ⟨v1, qv1, hf⟩ := ob hf
      refine J_callS X (rest := []) (rs := [.int v1]) (c_X5_holds l o emb A hA s3 s5 h0 v1 qv1) wd_445 wd_443 wd_34 wd_444 hd_X5_holds ⟨Nat.le_of_ble_eq_true rfl, Nat.le_of_ble_eq_true rfl⟩ ⟨Nat.zero_le _, Nat.zero_le _⟩ (Nat.le_of_ble_eq_true rfl) dX5_fillLoads_23 rfl rfl ?_
      refine J_if_eq (tgt := 40) X dX5_fillLoads_26 (by decide) (fun c26 => ?_) (fun c26 => ?_)
      · rw [if_pos c26] at hf
        obtain ⟨v2, qv2, hf⟩ := ob hf
        refine J_iinc X 5 [(5, .int v2), (0, .ref (o.1 0)), (1, .int s1), (2, .int s2), (3, .int s3), (4, .int s4)] dX5_fillLoads_40 rfl (Option.some.inj qv2) (Nat.le_of_ble_eq_true rfl) rfl ?_
        refine J_goto (tgt := 13) X dX5_fillLoads_43 (by decide) ?_
        exact J_sub [1, 2, 3, 4, 5, 0] rfl (ih s4 v2 hf hk)
      · rw [if_neg c26] at hf
        refine J_iload X 4 dX5_fillLoads_29 rfl ?_
        refine J_iload_n X 1 dX5_fillLoads_31 rfl rfl ?_
        refine J_iload X 5 dX5_fillLoads_32 rfl ?_
        obtain ⟨v3, qv3, hf⟩ := ob hf
        refine J_callS X (rest := [.int s4]) (rs := [.int v3, .int s4]) (c_X5_digit l o emb A hA s1 s5 h0 v3 qv3) wd_467 wd_468 wd_34 wd_469 hd_X5_digit ⟨Nat.le_of_ble_eq_true rfl, Nat.le_of_ble_eq_true rfl⟩ ⟨Nat.zero_le _, Nat.zero_le _⟩ (Nat.le_of_ble_eq_true rfl) dX5_fillLoads_34 rfl rfl ?_
        refine J_iadd X dX5_fillLoads_37 ?_
        obtain ⟨v4, qv4, hf⟩ := ob hf
        refine J_topi v4 (Option.some.inj qv4) ?_
        refine J_istore X [(4, .int v4), (0, .ref (o.1 0)), (1, .int s1), (2, .int s2), (3, .int s3), (5, .int s5)] dX5_fillLoads_38 (Nat.le_of_ble_eq_true rfl) rfl ?_
        obtain ⟨v5, qv5, hf⟩ := ob hf
        refine J_iinc X 5 [(5, .int v5), (4, .int v4), (0, .ref (o.1 0)), (1, .int s1), (2, .int s2), (3, .int s3)] dX5_fillLoads_40 rfl (Option.some.inj qv5) (Nat.le_of_ble_eq_true rfl) rfl ?_
        refine J_goto (tgt := 13) X dX5_fillLoads_43 (by decide) ?_
        exact J_sub [2, 3, 4, 5, 1, 0] rfl (ih v4 v5 hf hk)
set_option maxHeartbeats 4000000 in
set_option maxRecDepth 100000 in
theorem cf_X5_fillLoads_l2 {R : Type} (hA : ∀ h : Hp, va_D A (emb h)) (X : Cx p s m args meth c RX5 cX5_fillLoads 6 none o)  (hO : isX5 o emb) (s1 : Int32) (s2 : Int32) {kx : Int32 → Hp → Option R} (t : R) : ∀ (n : Nat) (s3 : Int32) (h : Hp), f_X5_fillLoads_l2 s1 s2 kx n s3 h = some t → (∀ (s3 : Int32) (h : Hp), kx s3 h = some t → J p l e (rmf 1 23) s m args below meth c 0 0 Z o emb A H0 6 72 [] [] h) → J p l e (rmf 1 23) s m args below meth c 0 0 Z o emb A H0 6 2 [(0, .ref (o.1 0)), (1, .int s1), (2, .int s2), (3, .int s3)] [] h := by
  intro n
  induction n with
  | zero =>
    intro s3 h hf hk
    cases hf
  | succ n ih =>
    intro s3 h hf hk
    rw [f_X5_fillLoads_l2] at hf
    refine J_iload_n X 3 dX5_fillLoads_2 rfl rfl ?_
    refine J_iload_n X 2 dX5_fillLoads_3 rfl rfl ?_
    refine J_icmp_ge (tgt := 72) X dX5_fillLoads_4 (by decide) (fun c4 => ?_) (fun c4 => ?_)
    · rw [if_pos c4] at hf
      exact J_sub [] rfl (hk s3 h hf)
    · rw [if_neg c4] at hf
      refine J_const X (0 : Int32) dX5_fillLoads_7 (by decide) ?_
      refine J_istore X [(4, .int (0 : Int32)), (0, .ref (o.1 0)), (1, .int s1), (2, .int s2), (3, .int s3)] dX5_fillLoads_8 (Nat.le_of_ble_eq_true rfl) rfl ?_
      refine J_const X (0 : Int32) dX5_fillLoads_10 (by decide) ?_
      refine J_istore X [(5, .int (0 : Int32)), (4, .int (0 : Int32)), (0, .ref (o.1 0)), (1, .int s1), (2, .int s2), (3, .int s3)] dX5_fillLoads_11 (Nat.le_of_ble_eq_true rfl) rfl ?_
      refine J_sub (lo' := [(0, .ref (o.1 0)), (1, .int s1), (2, .int s2), (3, .int s3), (4, .int (0 : Int32)), (5, .int (0 : Int32))]) [2, 3, 4, 5, 1, 0] rfl ?_
      refine cf_X5_fillLoads_l13 hA X  hO s1 s2 s3 h _ _ (0 : Int32) (0 : Int32) hf (fun w6 w7 hf => ?_)
      refine J_aload_n X 0 dX5_fillLoads_46 rfl rfl ?_
      refine J_get X hO.1 inX5 rfl 7 (Nat.le_of_ble_eq_true rfl) wd_175 rfl (v := .ref (o.1 35)) rfl dX5_fillLoads_47 ?_
      refine J_iload_n X 3 dX5_fillLoads_50 rfl rfl ?_
      refine J_iload X 4 dX5_fillLoads_51 rfl ?_
      obtain ⟨h8, qh8, hf⟩ := ob hf
      refine J_callS X (rest := []) (rs := []) (c_X5_put l o emb A hA 35 256 hO.2.2.2.2.2.2.2.2.1 s3 w6 h h8 qh8) wd_427 wd_225 wd_34 wd_226 hd_X5_put ⟨Nat.le_of_ble_eq_true rfl, Nat.le_of_ble_eq_true rfl⟩ ⟨Nat.zero_le _, Nat.zero_le _⟩ (Nat.le_of_ble_eq_true rfl) dX5_fillLoads_53 rfl rfl ?_
      refine J_aload_n X 0 dX5_fillLoads_56 rfl rfl ?_
      refine J_get X hO.1 inX5 rfl 8 (Nat.le_of_ble_eq_true rfl) wd_176 rfl (v := .ref (o.1 36)) rfl dX5_fillLoads_57 ?_
      refine J_iload_n X 3 dX5_fillLoads_60 rfl rfl ?_
      refine J_iload X 4 dX5_fillLoads_61 rfl ?_
      obtain ⟨h9, qh9, hf⟩ := ob hf
      refine J_callS X (rest := []) (rs := []) (c_X5_put l o emb A hA 36 256 hO.2.2.2.2.2.2.2.2.2.1 s3 w6 h8 h9 qh9) wd_427 wd_225 wd_34 wd_226 hd_X5_put ⟨Nat.le_of_ble_eq_true rfl, Nat.le_of_ble_eq_true rfl⟩ ⟨Nat.zero_le _, Nat.zero_le _⟩ (Nat.le_of_ble_eq_true rfl) dX5_fillLoads_63 rfl rfl ?_
      obtain ⟨v10, qv10, hf⟩ := ob hf
      refine J_iinc X 3 [(3, .int v10), (0, .ref (o.1 0)), (1, .int s1), (2, .int s2), (4, .int w6)] dX5_fillLoads_66 rfl (Option.some.inj qv10) (Nat.le_of_ble_eq_true rfl) rfl ?_
      refine J_goto (tgt := 2) X dX5_fillLoads_69 (by decide) ?_
      exact J_sub [1, 2, 3, 0] rfl (ih v10 h9 hf hk)
set_option maxHeartbeats 4000000 in
set_option maxRecDepth 100000 in
theorem c_X5_fillLoads (l : Launch) (o : Om) (emb : Hp → va_W) (A : Nat → Prop) (hA : ∀ h : Hp, va_D A (emb h)) (hO : isX5 o emb) (x1 : Int32) (x2 : Int32) (h : Hp)  (h' : Hp) (hf : f_X5_fillLoads x1 x2 h = some h') : Ct l o emb A yX5_fillLoads cX5_fillLoads 6 none 1 23 [.ref (o.1 0), .int x1, .int x2] h none h' := by
  refine Ct.of RX5 rfl (by decide +kernel) hA (Nat.le_of_ble_eq_true rfl) (fun p e s m args below meth c X => ?_)
  refine J_sub (lo' := [(0, .ref (o.1 0)), (1, .int x1), (2, .int x2)]) [0, 1, 2] rfl ?_
  rw [f_X5_fillLoads] at hf
  refine J_const X (0 : Int32) dX5_fillLoads_0 (by decide) ?_
  refine J_istore_n X [(3, .int (0 : Int32)), (0, .ref (o.1 0)), (1, .int x1), (2, .int x2)] dX5_fillLoads_1 rfl (Nat.le_of_ble_eq_true rfl) rfl ?_
  refine J_sub (lo' := [(0, .ref (o.1 0)), (1, .int x1), (2, .int x2), (3, .int (0 : Int32))]) [1, 2, 3, 0] rfl ?_
  refine cf_X5_fillLoads_l2 hA X  hO x1 x2 _ _ (0 : Int32) h hf (fun w11 h12 hf => ?_)
  cases hf
  exact J_vret X dX5_fillLoads_72
theorem hd_X5_giveToOneMoreHand : yX5_giveToOneMoreHand.cls ≠ "java/lang/invoke/MethodHandle" ∧ yX5_giveToOneMoreHand.cls ≠ "java/lang/invoke/VarHandle" ∧ (parseMethodDescriptor yX5_giveToOneMoreHand.desc).map (fun d => d.parameters.length) = some 1 := by decide +kernel
set_option maxHeartbeats 4000000 in
set_option maxRecDepth 100000 in
theorem cf_X5_giveToOneMoreHand_l20 {R : Type} (hA : ∀ h : Hp, va_D A (emb h)) (X : Cx p s m args meth c RX5 cX5_giveToOneMoreHand 5 none o)  (hO : isX5 o emb) (s2 : Int32) (h : Hp) {kx : Int32 → Int32 → Option R} (t : R) : ∀ (n : Nat) (s3 : Int32) (s4 : Int32), f_X5_giveToOneMoreHand_l20 s2 h kx n s3 s4 = some t → (∀ (s3 : Int32) (s4 : Int32), kx s3 s4 = some t → J p l e (rmf 1 22) s m args below meth c 0 0 Z o emb A H0 5 69 [(0, .ref (o.1 0)), (2, .int s2), (3, .int s3)] [] h) → J p l e (rmf 1 22) s m args below meth c 0 0 Z o emb A H0 5 20 [(0, .ref (o.1 0)), (2, .int s2), (3, .int s3), (4, .int s4)] [] h := by
  intro n
  induction n with
  | zero =>
    intro s3 s4 hf hk
    cases hf
  | succ n ih =>
    intro s3 s4 hf hk
    rw [f_X5_giveToOneMoreHand_l20] at hf
    refine J_iload X 3 dX5_giveToOneMoreHand_20 rfl ?_
    refine J_iload_n X 1 dX5_giveToOneMoreHand_22 rfl rfl ?_
    refine J_icmp_gt (tgt := 69) X dX5_giveToOneMoreHand_23 (by decide) (fun c23 => ?_) (fun c23 => ?_)
    · rw [if_pos c23] at hf
      exact J_sub [0, 1, 2] rfl (hk s3 s4 hf)
    · rw [if_neg c23] at hf
      refine J_iload X 3 dX5_giveToOneMoreHand_26 rfl ?_
      refine J_iload_n X 1 dX5_giveToOneMoreHand_28 rfl rfl ?_
      refine J_iand X dX5_giveToOneMoreHand_29 ?_
      refine J_iload X 3 dX5_giveToOneMoreHand_30 rfl ?_
      refine J_icmp_ne (tgt := 63) X dX5_giveToOneMoreHand_32 (by decide) (fun c32 => ?_) (fun c32 => ?_)
      · rw [if_neg c32] at hf
        obtain ⟨v3, qv3, hf⟩ := ob hf
        refine J_iinc X 3 [(4, .int v3), (0, .ref (o.1 0)), (2, .int s2), (3, .int s3)] dX5_giveToOneMoreHand_63 rfl (Option.some.inj qv3) (Nat.le_of_ble_eq_true rfl) rfl ?_
        refine J_goto (tgt := 20) X dX5_giveToOneMoreHand_66 (by decide) ?_
        exact J_sub [1, 2, 3, 0] rfl (ih s3 v3 hf hk)
      · rw [if_pos c32] at hf
        refine J_iload_n X 2 dX5_giveToOneMoreHand_35 rfl rfl ?_
        refine J_aload_n X 0 dX5_giveToOneMoreHand_36 rfl rfl ?_
        refine J_get X hO.1 inX5 rfl 7 (Nat.le_of_ble_eq_true rfl) wd_175 rfl (v := .ref (o.1 35)) rfl dX5_giveToOneMoreHand_37 ?_
        refine J_iload X 3 dX5_giveToOneMoreHand_40 rfl ?_
        obtain ⟨v4, qv4, hf⟩ := ob hf
        refine J_callS X (rest := [.int s3]) (rs := [.int v4, .int s3]) (c_X5_at l o emb A hA 35 256 hO.2.2.2.2.2.2.2.2.1 s4 h v4 qv4) wd_432 wd_255 wd_34 wd_256 hd_X5_at ⟨Nat.le_of_ble_eq_true rfl, Nat.le_of_ble_eq_true rfl⟩ ⟨Nat.zero_le _, Nat.zero_le _⟩ (Nat.le_of_ble_eq_true rfl) dX5_giveToOneMoreHand_42 rfl rfl ?_
        refine J_aload_n X 0 dX5_giveToOneMoreHand_45 rfl rfl ?_
        refine J_get X hO.1 inX5 rfl 8 (Nat.le_of_ble_eq_true rfl) wd_176 rfl (v := .ref (o.1 36)) rfl dX5_giveToOneMoreHand_46 ?_
        refine J_iload_n X 1 dX5_giveToOneMoreHand_49 rfl rfl ?_
        refine J_iload X 3 dX5_giveToOneMoreHand_50 rfl ?_
        refine J_isub X dX5_giveToOneMoreHand_52 ?_
        obtain ⟨v5, qv5, hf⟩ := ob hf
        refine J_callS X (rest := [.int v4, .int s3]) (rs := [.int v5, .int v4, .int s3]) (c_X5_at l o emb A hA 36 256 hO.2.2.2.2.2.2.2.2.2.1 (s2 - s4) h v5 qv5) wd_432 wd_255 wd_34 wd_256 hd_X5_at ⟨Nat.le_of_ble_eq_true rfl, Nat.le_of_ble_eq_true rfl⟩ ⟨Nat.zero_le _, Nat.zero_le _⟩ (Nat.le_of_ble_eq_true rfl) dX5_giveToOneMoreHand_53 rfl rfl ?_
        refine J_mmax X wd_355 wd_356 wd_43 wd_357 ⟨Nat.le_of_ble_eq_true rfl, Nat.le_of_ble_eq_true rfl, Nat.zero_le _, Nat.zero_le _⟩ dX5_giveToOneMoreHand_56 ?_
        refine J_mmin X wd_352 wd_353 wd_43 wd_354 ⟨Nat.le_of_ble_eq_true rfl, Nat.le_of_ble_eq_true rfl, Nat.zero_le _, Nat.zero_le _⟩ dX5_giveToOneMoreHand_59 ?_
        obtain ⟨v6, qv6, hf⟩ := ob hf
        refine J_topi v6 (Option.some.inj qv6) ?_
        refine J_istore_n X [(3, .int v6), (0, .ref (o.1 0)), (2, .int s2), (4, .int s4)] dX5_giveToOneMoreHand_62 rfl (Nat.le_of_ble_eq_true rfl) rfl ?_
        obtain ⟨v7, qv7, hf⟩ := ob hf
        refine J_iinc X 3 [(4, .int v7), (3, .int v6), (0, .ref (o.1 0)), (2, .int s2)] dX5_giveToOneMoreHand_63 rfl (Option.some.inj qv7) (Nat.le_of_ble_eq_true rfl) rfl ?_
        refine J_goto (tgt := 20) X dX5_giveToOneMoreHand_66 (by decide) ?_
        exact J_sub [2, 3, 1, 0] rfl (ih v6 v7 hf hk)
set_option maxHeartbeats 4000000 in
set_option maxRecDepth 100000 in
theorem cf_X5_giveToOneMoreHand_l4 {R : Type} (hA : ∀ h : Hp, va_D A (emb h)) (X : Cx p s m args meth c RX5 cX5_giveToOneMoreHand 5 none o)  (hO : isX5 o emb)  {kx : Int32 → Hp → Option R} (t : R) : ∀ (n : Nat) (s2 : Int32) (h : Hp), f_X5_giveToOneMoreHand_l4 kx n s2 h = some t → (∀ (s2 : Int32) (h : Hp), kx s2 h = some t → J p l e (rmf 1 22) s m args below meth c 0 0 Z o emb A H0 5 84 [] [] h) → J p l e (rmf 1 22) s m args below meth c 0 0 Z o emb A H0 5 4 [(0, .ref (o.1 0)), (2, .int s2)] [] h := by
  intro n
  induction n with
  | zero =>
    intro s2 h hf hk
    cases hf
  | succ n ih =>
    intro s2 h hf hk
    rw [f_X5_giveToOneMoreHand_l4] at hf
    refine J_iload_n X 1 dX5_giveToOneMoreHand_4 rfl rfl ?_
    refine J_if_le (tgt := 84) X dX5_giveToOneMoreHand_5 (by decide) (fun c5 => ?_) (fun c5 => ?_)
    · rw [if_pos c5] at hf
      exact J_sub [] rfl (hk s2 h hf)
    · rw [if_neg c5] at hf
      refine J_aload_n X 0 dX5_giveToOneMoreHand_8 rfl rfl ?_
      refine J_get X hO.1 inX5 rfl 8 (Nat.le_of_ble_eq_true rfl) wd_176 rfl (v := .ref (o.1 36)) rfl dX5_giveToOneMoreHand_9 ?_
      refine J_iload_n X 1 dX5_giveToOneMoreHand_12 rfl rfl ?_
      obtain ⟨v2, qv2, hf⟩ := ob hf
      refine J_callS X (rest := []) (rs := [.int v2]) (c_X5_at l o emb A hA 36 256 hO.2.2.2.2.2.2.2.2.2.1 s2 h v2 qv2) wd_432 wd_255 wd_34 wd_256 hd_X5_at ⟨Nat.le_of_ble_eq_true rfl, Nat.le_of_ble_eq_true rfl⟩ ⟨Nat.zero_le _, Nat.zero_le _⟩ (Nat.le_of_ble_eq_true rfl) dX5_giveToOneMoreHand_13 rfl rfl ?_
      refine J_istore_n X [(3, .int v2), (0, .ref (o.1 0)), (2, .int s2)] dX5_giveToOneMoreHand_16 rfl (Nat.le_of_ble_eq_true rfl) rfl ?_
      refine J_const X (1 : Int32) dX5_giveToOneMoreHand_17 (by decide) ?_
      refine J_istore X [(4, .int (1 : Int32)), (3, .int v2), (0, .ref (o.1 0)), (2, .int s2)] dX5_giveToOneMoreHand_18 (Nat.le_of_ble_eq_true rfl) rfl ?_
      refine J_sub (lo' := [(0, .ref (o.1 0)), (2, .int s2), (3, .int v2), (4, .int (1 : Int32))]) [2, 3, 1, 0] rfl ?_
      refine cf_X5_giveToOneMoreHand_l20 hA X  hO s2 h _ _ v2 (1 : Int32) hf (fun w8 w9 hf => ?_)
      refine J_aload_n X 0 dX5_giveToOneMoreHand_69 rfl rfl ?_
      refine J_get X hO.1 inX5 rfl 8 (Nat.le_of_ble_eq_true rfl) wd_176 rfl (v := .ref (o.1 36)) rfl dX5_giveToOneMoreHand_70 ?_
      refine J_iload_n X 1 dX5_giveToOneMoreHand_73 rfl rfl ?_
      refine J_iload_n X 2 dX5_giveToOneMoreHand_74 rfl rfl ?_
      obtain ⟨h10, qh10, hf⟩ := ob hf
      refine J_callS X (rest := []) (rs := []) (c_X5_put l o emb A hA 36 256 hO.2.2.2.2.2.2.2.2.2.1 s2 w8 h h10 qh10) wd_427 wd_225 wd_34 wd_226 hd_X5_put ⟨Nat.le_of_ble_eq_true rfl, Nat.le_of_ble_eq_true rfl⟩ ⟨Nat.zero_le _, Nat.zero_le _⟩ (Nat.le_of_ble_eq_true rfl) dX5_giveToOneMoreHand_75 rfl rfl ?_
      obtain ⟨v11, qv11, hf⟩ := ob hf
      refine J_iinc X 1 [(2, .int v11), (0, .ref (o.1 0)), (3, .int w8)] dX5_giveToOneMoreHand_78 rfl (Option.some.inj qv11) (Nat.le_of_ble_eq_true rfl) rfl ?_
      refine J_goto (tgt := 4) X dX5_giveToOneMoreHand_81 (by decide) ?_
      exact J_sub [1, 0] rfl (ih v11 h10 hf hk)
set_option maxHeartbeats 4000000 in
set_option maxRecDepth 100000 in
theorem c_X5_giveToOneMoreHand (l : Launch) (o : Om) (emb : Hp → va_W) (A : Nat → Prop) (hA : ∀ h : Hp, va_D A (emb h)) (hO : isX5 o emb) (x1 : Int32) (h : Hp)  (h' : Hp) (hf : f_X5_giveToOneMoreHand x1 h = some h') : Ct l o emb A yX5_giveToOneMoreHand cX5_giveToOneMoreHand 5 none 1 22 [.ref (o.1 0), .int x1] h none h' := by
  refine Ct.of RX5 rfl (by decide +kernel) hA (Nat.le_of_ble_eq_true rfl) (fun p e s m args below meth c X => ?_)
  refine J_sub (lo' := [(0, .ref (o.1 0)), (1, .int x1)]) [0, 1] rfl ?_
  rw [f_X5_giveToOneMoreHand] at hf
  refine J_iload_n X 1 dX5_giveToOneMoreHand_0 rfl rfl ?_
  refine J_const X (1 : Int32) dX5_giveToOneMoreHand_1 (by decide) ?_
  refine J_isub X dX5_giveToOneMoreHand_2 ?_
  obtain ⟨v1, qv1, hf⟩ := ob hf
  refine J_topi v1 (Option.some.inj qv1) ?_
  refine J_istore_n X [(2, .int v1), (0, .ref (o.1 0)), (1, .int x1)] dX5_giveToOneMoreHand_3 rfl (Nat.le_of_ble_eq_true rfl) rfl ?_
  refine J_sub (lo' := [(0, .ref (o.1 0)), (2, .int v1)]) [1, 0] rfl ?_
  refine cf_X5_giveToOneMoreHand_l4 hA X  hO  _ _ v1 h hf (fun w12 h13 hf => ?_)
  cases hf
  exact J_vret X dX5_giveToOneMoreHand_84
theorem hd_X5_mended : yX5_mended.cls ≠ "java/lang/invoke/MethodHandle" ∧ yX5_mended.cls ≠ "java/lang/invoke/VarHandle" ∧ (parseMethodDescriptor yX5_mended.desc).map (fun d => d.parameters.length) = some 3 := by decide +kernel
set_option maxHeartbeats 4000000 in
set_option maxRecDepth 100000 in
theorem cf_X5_mended_l48 {R : Type} (hA : ∀ h : Hp, va_D A (emb h)) (X : Cx p s m args meth c RX5 cX5_mended 6 (some .int) o)  (hO : isX5 o emb) (s3 : Int32) (s4 : Int32) {kx : Int32 → Hp → Option R} (t : R) : ∀ (n : Nat) (s5 : Int32) (h : Hp), f_X5_mended_l48 s3 s4 kx n s5 h = some t → (∀ (s5 : Int32) (h : Hp), kx s5 h = some t → J p l e (rmf 2 48) s m args below meth c 0 0 Z o emb A H0 6 66 [(0, .ref (o.1 0)), (4, .int s4)] [] h) → J p l e (rmf 2 48) s m args below meth c 0 0 Z o emb A H0 6 48 [(0, .ref (o.1 0)), (3, .int s3), (4, .int s4), (5, .int s5)] [] h := by
  intro n
  induction n with
  | zero =>
    intro s5 h hf hk
    cases hf
  | succ n ih =>
    intro s5 h hf hk
    rw [f_X5_mended_l48] at hf
    refine J_iload X 3 dX5_mended_48 rfl ?_
    refine J_iload_n X 1 dX5_mended_50 rfl rfl ?_
    refine J_icmp_gt (tgt := 66) X dX5_mended_51 (by decide) (fun c51 => ?_) (fun c51 => ?_)
    · rw [if_pos c51] at hf
      exact J_sub [0, 2] rfl (hk s5 h hf)
    · rw [if_neg c51] at hf
      refine J_aload_n X 0 dX5_mended_54 rfl rfl ?_
      refine J_iload X 2 dX5_mended_55 rfl ?_
      obtain ⟨h6, qh6, hf⟩ := ob hf
      refine J_callV X (rest := []) (rs := []) (c_X5_giveToOneMoreHand l o emb A hA hO s4 h h6 qh6) hO.1 rfl rfl wd_474 wd_476 wd_8 wd_34 wd_477 hd_X5_giveToOneMoreHand ⟨Nat.le_of_ble_eq_true rfl, Nat.le_of_ble_eq_true rfl⟩ ⟨Nat.zero_le _, Nat.zero_le _⟩ (Nat.le_of_ble_eq_true rfl) dX5_mended_57 rfl rfl ?_
      obtain ⟨v7, qv7, hf⟩ := ob hf
      refine J_iinc X 3 [(5, .int v7), (0, .ref (o.1 0)), (3, .int s3), (4, .int s4)] dX5_mended_60 rfl (Option.some.inj qv7) (Nat.le_of_ble_eq_true rfl) rfl ?_
      refine J_goto (tgt := 48) X dX5_mended_63 (by decide) ?_
      exact J_sub [1, 2, 3, 0] rfl (ih v7 h6 hf hk)
set_option maxHeartbeats 4000000 in
set_option maxRecDepth 100000 in
theorem c_X5_mended (l : Launch) (o : Om) (emb : Hp → va_W) (A : Nat → Prop) (hA : ∀ h : Hp, va_D A (emb h)) (hO : isX5 o emb) (x1 : Int32) (x2 : Int32) (x3 : Int32) (h : Hp) (r : Int32) (h' : Hp) (hf : f_X5_mended x1 x2 x3 h = some (r, h')) : Ct l o emb A yX5_mended cX5_mended 6 (some .int) 2 48 [.ref (o.1 0), .int x1, .int x2, .int x3] h (some (.int r)) h' := by
  refine Ct.of RX5 rfl (by decide +kernel) hA (Nat.le_of_ble_eq_true rfl) (fun p e s m args below meth c X => ?_)
  refine J_sub (lo' := [(0, .ref (o.1 0)), (1, .int x1), (2, .int x2), (3, .int x3)]) [0, 1, 2, 3] rfl ?_
  rw [f_X5_mended] at hf
  refine J_iload_n X 2 dX5_mended_0 rfl rfl ?_
  refine J_const X (1 : Int32) dX5_mended_1 (by decide) ?_
  refine J_bipush X (8 : Int32) dX5_mended_2 (by decide) ?_
  obtain ⟨v1, qv1, hf⟩ := ob hf
  refine J_callS X (rest := []) (rs := [.int v1]) (c_X5_within l o emb A hA x2 (1 : Int32) (8 : Int32) h v1 qv1) wd_216 wd_217 wd_34 wd_218 hd_X5_within ⟨Nat.le_of_ble_eq_true rfl, Nat.le_of_ble_eq_true rfl⟩ ⟨Nat.zero_le _, Nat.zero_le _⟩ (Nat.le_of_ble_eq_true rfl) dX5_mended_4 rfl rfl ?_
  refine J_if_eq (tgt := 19) X dX5_mended_7 (by decide) (fun c7 => ?_) (fun c7 => ?_)
  · rw [if_pos c7] at hf
    refine J_bipush X (-2 : Int32) dX5_mended_19 (by decide) ?_
    cases hf
    exact J_iret X dX5_mended_21
  · rw [if_neg c7] at hf
    refine J_iload_n X 3 dX5_mended_10 rfl rfl ?_
    refine J_const X (1 : Int32) dX5_mended_11 (by decide) ?_
    refine J_const X (4 : Int32) dX5_mended_12 (by decide) ?_
    obtain ⟨v2, qv2, hf⟩ := ob hf
    refine J_callS X (rest := []) (rs := [.int v2]) (c_X5_within l o emb A hA x3 (1 : Int32) (4 : Int32) h v2 qv2) wd_216 wd_217 wd_34 wd_218 hd_X5_within ⟨Nat.le_of_ble_eq_true rfl, Nat.le_of_ble_eq_true rfl⟩ ⟨Nat.zero_le _, Nat.zero_le _⟩ (Nat.le_of_ble_eq_true rfl) dX5_mended_13 rfl rfl ?_
    refine J_if_ne (tgt := 22) X dX5_mended_16 (by decide) (fun c16 => ?_) (fun c16 => ?_)
    · rw [if_neg c16] at hf
      refine J_iload_n X 1 dX5_mended_22 rfl rfl ?_
      refine J_iload_n X 2 dX5_mended_23 rfl rfl ?_
      obtain ⟨v3, qv3, hf⟩ := ob hf
      refine J_callS X (rest := []) (rs := [.int v3]) (c_X5_hasDigits l o emb A hA x1 x2 h v3 qv3) wd_460 wd_461 wd_34 wd_462 hd_X5_hasDigits ⟨Nat.le_of_ble_eq_true rfl, Nat.le_of_ble_eq_true rfl⟩ ⟨Nat.zero_le _, Nat.zero_le _⟩ (Nat.le_of_ble_eq_true rfl) dX5_mended_24 rfl rfl ?_
      refine J_if_ne (tgt := 33) X dX5_mended_27 (by decide) (fun c27 => ?_) (fun c27 => ?_)
      · rw [if_neg c27] at hf
        refine J_const X (1 : Int32) dX5_mended_33 (by decide) ?_
        refine J_iload_n X 2 dX5_mended_34 rfl rfl ?_
        refine J_ishl X dX5_mended_35 ?_
        obtain ⟨v4, qv4, hf⟩ := ob hf
        refine J_topi v4 (Option.some.inj qv4) ?_
        refine J_istore X [(4, .int v4), (0, .ref (o.1 0)), (1, .int x1), (2, .int x2), (3, .int x3)] dX5_mended_36 (Nat.le_of_ble_eq_true rfl) rfl ?_
        refine J_aload_n X 1 dX5_mended_38 rfl rfl ?_
        refine J_iload_n X 2 dX5_mended_39 rfl rfl ?_
        refine J_iload X 0 dX5_mended_40 rfl ?_
        obtain ⟨h5, qh5, hf⟩ := ob hf
        refine J_callV X (rest := []) (rs := []) (c_X5_fillLoads l o emb A hA hO x1 v4 h h5 qh5) hO.1 rfl rfl wd_470 wd_472 wd_7 wd_34 wd_473 hd_X5_fillLoads ⟨Nat.le_of_ble_eq_true rfl, Nat.le_of_ble_eq_true rfl⟩ ⟨Nat.zero_le _, Nat.zero_le _⟩ (Nat.le_of_ble_eq_true rfl) dX5_mended_42 rfl rfl ?_
        refine J_const X (2 : Int32) dX5_mended_45 (by decide) ?_
        refine J_istore X [(5, .int (2 : Int32)), (4, .int v4), (0, .ref (o.1 0)), (1, .int x1), (2, .int x2), (3, .int x3)] dX5_mended_46 (Nat.le_of_ble_eq_true rfl) rfl ?_
        refine J_sub (lo' := [(0, .ref (o.1 0)), (3, .int x3), (4, .int v4), (5, .int (2 : Int32))]) [2, 5, 1, 0] rfl ?_
        refine cf_X5_mended_l48 hA X  hO x3 v4 _ _ (2 : Int32) h5 hf (fun w8 h9 hf => ?_)
        refine J_aload_n X 0 dX5_mended_66 rfl rfl ?_
        refine J_get X hO.1 inX5 rfl 8 (Nat.le_of_ble_eq_true rfl) wd_176 rfl (v := .ref (o.1 36)) rfl dX5_mended_67 ?_
        refine J_iload X 1 dX5_mended_70 rfl ?_
        refine J_const X (1 : Int32) dX5_mended_72 (by decide) ?_
        refine J_isub X dX5_mended_73 ?_
        obtain ⟨v10, qv10, hf⟩ := ob hf
        refine J_callS X (rest := []) (rs := [.int v10]) (c_X5_at l o emb A hA 36 256 hO.2.2.2.2.2.2.2.2.2.1 (v4 - (1 : Int32)) h9 v10 qv10) wd_432 wd_255 wd_34 wd_256 hd_X5_at ⟨Nat.le_of_ble_eq_true rfl, Nat.le_of_ble_eq_true rfl⟩ ⟨Nat.zero_le _, Nat.zero_le _⟩ (Nat.le_of_ble_eq_true rfl) dX5_mended_74 rfl rfl ?_
        cases hf
        exact J_iret X dX5_mended_77
      · rw [if_pos c27] at hf
        refine J_bipush X (-2 : Int32) dX5_mended_30 (by decide) ?_
        cases hf
        exact J_iret X dX5_mended_32
    · rw [if_pos c16] at hf
      refine J_bipush X (-2 : Int32) dX5_mended_19 (by decide) ?_
      cases hf
      exact J_iret X dX5_mended_21
theorem hd_X5_pays : yX5_pays.cls ≠ "java/lang/invoke/MethodHandle" ∧ yX5_pays.cls ≠ "java/lang/invoke/VarHandle" ∧ (parseMethodDescriptor yX5_pays.desc).map (fun d => d.parameters.length) = some 4 := by decide +kernel
set_option maxHeartbeats 4000000 in
set_option maxRecDepth 100000 in
theorem cf_X5_pays_l70 {R : Type} (hA : ∀ h : Hp, va_D A (emb h)) (X : Cx p s m args meth c RX5 cX5_pays 10 (some .long) o)  (hO : isX5 o emb) (s1 : Int32) (s2 : Int32) (s4 : Int32) (s5 : Int32) (h0 : Hp) {kx : Int64 → Int32 → Option R} (t : R) : ∀ (n : Nat) (s6 : Int64) (s8 : Int32), f_X5_pays_l70 s1 s2 s4 s5 kx n s6 s8 = some t → (∀ (s6 : Int64) (s8 : Int32), kx s6 s8 = some t → J p l e (rmf 2 58) s m args below meth c 0 0 Z o emb A H0 10 109 [(4, .int s4), (6, .long s6)] [] h0) → J p l e (rmf 2 58) s m args below meth c 0 0 Z o emb A H0 10 70 [(1, .int s1), (2, .int s2), (4, .int s4), (5, .int s5), (6, .long s6), (8, .int s8)] [] h0 := by
  intro n
  induction n with
  | zero =>
    intro s6 s8 hf hk
    cases hf
  | succ n ih =>
    intro s6 s8 hf hk
    rw [f_X5_pays_l70] at hf
    refine J_iload X 5 dX5_pays_70 rfl ?_
    refine J_iload X 3 dX5_pays_72 rfl ?_
    refine J_icmp_gt (tgt := 109) X dX5_pays_74 (by decide) (fun c74 => ?_) (fun c74 => ?_)
    · rw [if_pos c74] at hf
      exact J_sub [2, 4] rfl (hk s6 s8 hf)
    · rw [if_neg c74] at hf
      refine J_iload_n X 0 dX5_pays_77 rfl rfl ?_
      refine J_iload_n X 1 dX5_pays_78 rfl rfl ?_
      refine J_iload X 5 dX5_pays_79 rfl ?_
      obtain ⟨v6, qv6, hf⟩ := ob hf
      refine J_callS X (rest := []) (rs := [.int v6]) (c_X5_countUsers l o emb A hA s1 s2 s8 h0 v6 qv6) wd_483 wd_484 wd_34 wd_485 hd_X5_countUsers ⟨Nat.le_of_ble_eq_true rfl, Nat.le_of_ble_eq_true rfl⟩ ⟨Nat.zero_le _, Nat.zero_le _⟩ (Nat.le_of_ble_eq_true rfl) dX5_pays_81 rfl rfl ?_
      refine J_istore X [(9, .int v6), (1, .int s1), (2, .int s2), (4, .int s4), (5, .int s5), (6, .long s6), (8, .int s8)] dX5_pays_84 (Nat.le_of_ble_eq_true rfl) rfl ?_
      refine J_iload X 0 dX5_pays_86 rfl ?_
      refine J_if_le (tgt := 103) X dX5_pays_88 (by decide) (fun c88 => ?_) (fun c88 => ?_)
      · rw [if_pos c88] at hf
        obtain ⟨v7, qv7, hf⟩ := ob hf
        refine J_iinc X 6 [(8, .int v7), (9, .int v6), (1, .int s1), (2, .int s2), (4, .int s4), (5, .int s5), (6, .long s6)] dX5_pays_103 rfl (Option.some.inj qv7) (Nat.le_of_ble_eq_true rfl) rfl ?_
        refine J_goto (tgt := 70) X dX5_pays_106 (by decide) ?_
        exact J_sub [2, 3, 4, 5, 6, 0] rfl (ih s6 v7 hf hk)
      · rw [if_neg c88] at hf
        refine J_lload X 5 dX5_pays_91 rfl ?_
        refine J_sipush X (2520 : Int32) dX5_pays_93 (by decide) ?_
        refine J_iload X 0 dX5_pays_96 rfl ?_
        obtain ⟨v8, qv8, hf⟩ := ob hf
        refine J_idiv X dX5_pays_98 (idv_s qv8).1 ?_
        refine J_topi v8 (idv_s qv8).2 ?_
        refine J_i2l X dX5_pays_99 ?_
        refine J_ladd X dX5_pays_100 ?_
        obtain ⟨v9, qv9, hf⟩ := ob hf
        refine J_topl v9 (Option.some.inj qv9) ?_
        refine J_lstore X [(6, .long v9), (9, .int v6), (1, .int s1), (2, .int s2), (4, .int s4), (5, .int s5), (8, .int s8)] dX5_pays_101 (Nat.le_of_ble_eq_true rfl) rfl ?_
        obtain ⟨v10, qv10, hf⟩ := ob hf
        refine J_iinc X 6 [(8, .int v10), (6, .long v9), (9, .int v6), (1, .int s1), (2, .int s2), (4, .int s4), (5, .int s5)] dX5_pays_103 rfl (Option.some.inj qv10) (Nat.le_of_ble_eq_true rfl) rfl ?_
        refine J_goto (tgt := 70) X dX5_pays_106 (by decide) ?_
        exact J_sub [3, 4, 5, 6, 1, 0] rfl (ih v9 v10 hf hk)
set_option maxHeartbeats 4000000 in
set_option maxRecDepth 100000 in
theorem c_X5_pays (l : Launch) (o : Om) (emb : Hp → va_W) (A : Nat → Prop) (hA : ∀ h : Hp, va_D A (emb h)) (hO : isX5 o emb) (x1 : Int32) (x2 : Int32) (x3 : Int32) (x4 : Int32) (h : Hp) (r : Int64) (hf : f_X5_pays x1 x2 x3 x4 = some r) : Ct l o emb A yX5_pays cX5_pays 10 (some .long) 2 58 [.ref (o.1 0), .int x1, .int x2, .int x3, .int x4] h (some (.long r)) h := by
  refine Ct.of RX5 rfl (by decide +kernel) hA (Nat.le_of_ble_eq_true rfl) (fun p e s m args below meth c X => ?_)
  refine J_sub (lo' := [(0, .ref (o.1 0)), (1, .int x1), (2, .int x2), (3, .int x3), (4, .int x4)]) [0, 1, 2, 3, 4] rfl ?_
  rw [f_X5_pays] at hf
  refine J_iload_n X 2 dX5_pays_0 rfl rfl ?_
  refine J_const X (1 : Int32) dX5_pays_1 (by decide) ?_
  refine J_bipush X (9 : Int32) dX5_pays_2 (by decide) ?_
  obtain ⟨v1, qv1, hf⟩ := ob hf
  refine J_callS X (rest := []) (rs := [.int v1]) (c_X5_within l o emb A hA x2 (1 : Int32) (9 : Int32) h v1 qv1) wd_216 wd_217 wd_34 wd_218 hd_X5_within ⟨Nat.le_of_ble_eq_true rfl, Nat.le_of_ble_eq_true rfl⟩ ⟨Nat.zero_le _, Nat.zero_le _⟩ (Nat.le_of_ble_eq_true rfl) dX5_pays_4 rfl rfl ?_
  refine J_if_eq (tgt := 24) X dX5_pays_7 (by decide) (fun c7 => ?_) (fun c7 => ?_)
  · rw [if_pos c7] at hf
    refine J_ldc2 X wd_482 dX5_pays_24 ?_
    cases hf
    exact J_lret X dX5_pays_27
  · rw [if_neg c7] at hf
    refine J_iload_n X 1 dX5_pays_10 rfl rfl ?_
    refine J_if_lt (tgt := 24) X dX5_pays_11 (by decide) (fun c11 => ?_) (fun c11 => ?_)
    · rw [if_pos c11] at hf
      refine J_ldc2 X wd_482 dX5_pays_24 ?_
      cases hf
      exact J_lret X dX5_pays_27
    · rw [if_neg c11] at hf
      refine J_iload_n X 1 dX5_pays_14 rfl rfl ?_
      refine J_i2l X dX5_pays_15 ?_
      refine J_iload_n X 2 dX5_pays_16 rfl rfl ?_
      obtain ⟨v2, qv2, hf⟩ := ob hf
      refine J_callS X (rest := [.long (x1).toInt64]) (rs := [.long v2, .long (x1).toInt64]) (c_X5_powerOfTen l o emb A hA x2 h v2 qv2) wd_463 wd_464 wd_34 wd_465 hd_X5_powerOfTen ⟨Nat.le_of_ble_eq_true rfl, Nat.le_of_ble_eq_true rfl⟩ ⟨Nat.zero_le _, Nat.zero_le _⟩ (Nat.le_of_ble_eq_true rfl) dX5_pays_17 rfl rfl ?_
      refine J_lcmp X dX5_pays_20 ?_
      refine J_if_lt (tgt := 28) X dX5_pays_21 (by decide) (fun c21 => ?_) (fun c21 => ?_)
      · rw [if_pos c21] at hf
        refine J_iload_n X 3 dX5_pays_28 rfl rfl ?_
        refine J_const X (0 : Int32) dX5_pays_29 (by decide) ?_
        refine J_iload_n X 2 dX5_pays_30 rfl rfl ?_
        refine J_const X (1 : Int32) dX5_pays_31 (by decide) ?_
        refine J_isub X dX5_pays_32 ?_
        obtain ⟨v3, qv3, hf⟩ := ob hf
        refine J_callS X (rest := []) (rs := [.int v3]) (c_X5_within l o emb A hA x3 (0 : Int32) (x2 - (1 : Int32)) h v3 qv3) wd_216 wd_217 wd_34 wd_218 hd_X5_within ⟨Nat.le_of_ble_eq_true rfl, Nat.le_of_ble_eq_true rfl⟩ ⟨Nat.zero_le _, Nat.zero_le _⟩ (Nat.le_of_ble_eq_true rfl) dX5_pays_33 rfl rfl ?_
        refine J_if_eq (tgt := 49) X dX5_pays_36 (by decide) (fun c36 => ?_) (fun c36 => ?_)
        · rw [if_pos c36] at hf
          refine J_ldc2 X wd_482 dX5_pays_49 ?_
          cases hf
          exact J_lret X dX5_pays_52
        · rw [if_neg c36] at hf
          refine J_iload X 4 dX5_pays_39 rfl ?_
          refine J_const X (0 : Int32) dX5_pays_41 (by decide) ?_
          refine J_const X (1 : Int32) dX5_pays_42 (by decide) ?_
          obtain ⟨v4, qv4, hf⟩ := ob hf
          refine J_callS X (rest := []) (rs := [.int v4]) (c_X5_within l o emb A hA x4 (0 : Int32) (1 : Int32) h v4 qv4) wd_216 wd_217 wd_34 wd_218 hd_X5_within ⟨Nat.le_of_ble_eq_true rfl, Nat.le_of_ble_eq_true rfl⟩ ⟨Nat.zero_le _, Nat.zero_le _⟩ (Nat.le_of_ble_eq_true rfl) dX5_pays_43 rfl rfl ?_
          refine J_if_ne (tgt := 53) X dX5_pays_46 (by decide) (fun c46 => ?_) (fun c46 => ?_)
          · rw [if_neg c46] at hf
            refine J_iload_n X 1 dX5_pays_53 rfl rfl ?_
            refine J_iload_n X 2 dX5_pays_54 rfl rfl ?_
            refine J_const X (1 : Int32) dX5_pays_55 (by decide) ?_
            refine J_isub X dX5_pays_56 ?_
            refine J_iload_n X 3 dX5_pays_57 rfl rfl ?_
            refine J_isub X dX5_pays_58 ?_
            obtain ⟨v5, qv5, hf⟩ := ob hf
            refine J_callS X (rest := []) (rs := [.int v5]) (c_X5_digit l o emb A hA x1 ((x2 - (1 : Int32)) - x3) h v5 qv5) wd_467 wd_468 wd_34 wd_469 hd_X5_digit ⟨Nat.le_of_ble_eq_true rfl, Nat.le_of_ble_eq_true rfl⟩ ⟨Nat.zero_le _, Nat.zero_le _⟩ (Nat.le_of_ble_eq_true rfl) dX5_pays_59 rfl rfl ?_
            refine J_istore X [(5, .int v5), (0, .ref (o.1 0)), (1, .int x1), (2, .int x2), (3, .int x3), (4, .int x4)] dX5_pays_62 (Nat.le_of_ble_eq_true rfl) rfl ?_
            refine J_lconst X (0 : Int64) dX5_pays_64 (by decide) ?_
            refine J_lstore X [(6, .long (0 : Int64)), (5, .int v5), (0, .ref (o.1 0)), (1, .int x1), (2, .int x2), (3, .int x3), (4, .int x4)] dX5_pays_65 (Nat.le_of_ble_eq_true rfl) rfl ?_
            refine J_const X (1 : Int32) dX5_pays_67 (by decide) ?_
            refine J_istore X [(8, .int (1 : Int32)), (6, .long (0 : Int64)), (5, .int v5), (0, .ref (o.1 0)), (1, .int x1), (2, .int x2), (3, .int x3), (4, .int x4)] dX5_pays_68 (Nat.le_of_ble_eq_true rfl) rfl ?_
            refine J_sub (lo' := [(1, .int x1), (2, .int x2), (4, .int x4), (5, .int v5), (6, .long (0 : Int64)), (8, .int (1 : Int32))]) [4, 5, 7, 2, 1, 0] rfl ?_
            refine cf_X5_pays_l70 hA X  hO x1 x2 x4 v5 h _ _ (0 : Int64) (1 : Int32) hf (fun w11 w12 hf => ?_)
            refine J_lload X 1 dX5_pays_109 rfl ?_
            refine J_ldc2 X wd_486 dX5_pays_111 ?_
            refine J_iload X 0 dX5_pays_114 rfl ?_
            obtain ⟨v13, qv13, hf⟩ := ob hf
            refine J_callS X (rest := []) (rs := [.long v13]) (c_X5_lowestTerms l o emb A hA w11 (2520 : Int64) x4 h v13 qv13) wd_487 wd_488 wd_34 wd_489 hd_X5_lowestTerms ⟨Nat.le_of_ble_eq_true rfl, Nat.le_of_ble_eq_true rfl⟩ ⟨Nat.zero_le _, Nat.zero_le _⟩ (Nat.le_of_ble_eq_true rfl) dX5_pays_116 rfl rfl ?_
            cases hf
            exact J_lret X dX5_pays_119
          · rw [if_pos c46] at hf
            refine J_ldc2 X wd_482 dX5_pays_49 ?_
            cases hf
            exact J_lret X dX5_pays_52
      · rw [if_neg c21] at hf
        refine J_ldc2 X wd_482 dX5_pays_24 ?_
        cases hf
        exact J_lret X dX5_pays_27
theorem hd_X5_seen : yX5_seen.cls ≠ "java/lang/invoke/MethodHandle" ∧ yX5_seen.cls ≠ "java/lang/invoke/VarHandle" ∧ (parseMethodDescriptor yX5_seen.desc).map (fun d => d.parameters.length) = some 3 := by decide +kernel
set_option maxHeartbeats 4000000 in
set_option maxRecDepth 100000 in
theorem c_X5_seen (l : Launch) (o : Om) (emb : Hp → va_W) (A : Nat → Prop) (hA : ∀ h : Hp, va_D A (emb h)) (hO : isX5 o emb) (x1 : Int32) (x2 : Int32) (x3 : Int32) (h : Hp) (r : Int32) (h' : Hp) (hf : f_X5_seen x1 x2 x3 h = some (r, h')) : Ct l o emb A yX5_seen cX5_seen 4 (some .int) 2 45 [.ref (o.1 0), .int x1, .int x2, .int x3] h (some (.int r)) h' := by
  refine Ct.of RX5 rfl (by decide +kernel) hA (Nat.le_of_ble_eq_true rfl) (fun p e s m args below meth c X => ?_)
  refine J_sub (lo' := [(0, .ref (o.1 0)), (1, .int x1), (2, .int x2), (3, .int x3)]) [0, 1, 2, 3] rfl ?_
  rw [f_X5_seen] at hf
  refine J_iload_n X 2 dX5_seen_0 rfl rfl ?_
  refine J_const X (0 : Int32) dX5_seen_1 (by decide) ?_
  refine J_bipush X (20 : Int32) dX5_seen_2 (by decide) ?_
  obtain ⟨v1, qv1, hf⟩ := ob hf
  refine J_callS X (rest := []) (rs := [.int v1]) (c_X5_within l o emb A hA x2 (0 : Int32) (20 : Int32) h v1 qv1) wd_216 wd_217 wd_34 wd_218 hd_X5_within ⟨Nat.le_of_ble_eq_true rfl, Nat.le_of_ble_eq_true rfl⟩ ⟨Nat.zero_le _, Nat.zero_le _⟩ (Nat.le_of_ble_eq_true rfl) dX5_seen_4 rfl rfl ?_
  refine J_if_eq (tgt := 21) X dX5_seen_7 (by decide) (fun c7 => ?_) (fun c7 => ?_)
  · rw [if_pos c7] at hf
    refine J_bipush X (-2 : Int32) dX5_seen_21 (by decide) ?_
    cases hf
    exact J_iret X dX5_seen_23
  · rw [if_neg c7] at hf
    refine J_iload_n X 3 dX5_seen_10 rfl rfl ?_
    refine J_const X (0 : Int32) dX5_seen_11 (by decide) ?_
    refine J_sipush X (9999 : Int32) dX5_seen_12 (by decide) ?_
    obtain ⟨v2, qv2, hf⟩ := ob hf
    refine J_callS X (rest := []) (rs := [.int v2]) (c_X5_within l o emb A hA x3 (0 : Int32) (9999 : Int32) h v2 qv2) wd_216 wd_217 wd_34 wd_218 hd_X5_within ⟨Nat.le_of_ble_eq_true rfl, Nat.le_of_ble_eq_true rfl⟩ ⟨Nat.zero_le _, Nat.zero_le _⟩ (Nat.le_of_ble_eq_true rfl) dX5_seen_15 rfl rfl ?_
    refine J_if_ne (tgt := 24) X dX5_seen_18 (by decide) (fun c18 => ?_) (fun c18 => ?_)
    · rw [if_neg c18] at hf
      refine J_aload_n X 0 dX5_seen_24 rfl rfl ?_
      refine J_get X hO.1 inX5 rfl 1 (Nat.le_of_ble_eq_true rfl) wd_169 rfl (v := .ref (o.1 5)) rfl dX5_seen_25 ?_
      refine J_getN X hO.2.2.1.1 inX3 rfl 3 (Nat.le_of_ble_eq_true rfl) nw_91 rfl (v := .int (h.1 5 3)) rfl dX5_seen_28 ?_
      refine J_bipush X (8 : Int32) dX5_seen_31 (by decide) ?_
      refine J_icmp_lt (tgt := 39) X dX5_seen_33 (by decide) (fun c33 => ?_) (fun c33 => ?_)
      · rw [if_pos c33] at hf
        refine J_aload_n X 0 dX5_seen_39 rfl rfl ?_
        refine J_get X hO.1 inX5 rfl 1 (Nat.le_of_ble_eq_true rfl) wd_169 rfl (v := .ref (o.1 5)) rfl dX5_seen_40 ?_
        refine J_iload_n X 1 dX5_seen_43 rfl rfl ?_
        obtain ⟨t4, qt4, hf⟩ := ob hf
        have yk3 : J p l e (rmf 2 45) s m args below meth c 0 0 (MQ below (WdQ o emb A (some (.int r)) h') args s 0 0 A) o emb A s.heap 4 52 [(0, .ref (o.1 0)), (2, .int x2), (3, .int x3)] [.int t4, .ref (o.1 5)] h := by
          refine J_iload_n X 1 dX5_seen_52 rfl rfl ?_
          refine J_iload_n X 2 dX5_seen_53 rfl rfl ?_
          obtain ⟨h5, qh5, hf⟩ := ob hf
          refine J_callV X (rest := []) (rs := []) (c_X3_add l o emb A hA 5 hO.2.2.1 t4 x2 x3 h h5 qh5) hO.2.2.1.1 rfl rfl wd_497 wd_498 wd_499 wd_37 wd_500 hd_X3_add ⟨Nat.le_of_ble_eq_true rfl, Nat.le_of_ble_eq_true rfl⟩ ⟨Nat.zero_le _, Nat.zero_le _⟩ (Nat.le_of_ble_eq_true rfl) dX5_seen_54 rfl rfl ?_
          refine J_aload_n X 0 dX5_seen_57 rfl rfl ?_
          refine J_get X hO.1 inX5 rfl 1 (Nat.le_of_ble_eq_true rfl) wd_169 rfl (v := .ref (o.1 5)) rfl dX5_seen_58 ?_
          refine J_getN X hO.2.2.1.1 inX3 rfl 3 (Nat.le_of_ble_eq_true rfl) nw_91 rfl (v := .int (h5.1 5 3)) rfl dX5_seen_61 ?_
          cases hf
          exact J_iret X dX5_seen_64
        clear hf
        have hf := qt4
        clear qt4
        refine J_if_eq (tgt := 51) X dX5_seen_44 (by decide) (fun c44 => ?_) (fun c44 => ?_)
        · rw [if_pos c44] at hf
          refine J_const X (0 : Int32) dX5_seen_51 (by decide) ?_
          cases hf
          exact J_sub [0, 2, 3] rfl yk3
        · rw [if_neg c44] at hf
          refine J_const X (1 : Int32) dX5_seen_47 (by decide) ?_
          refine J_goto (tgt := 52) X dX5_seen_48 (by decide) ?_
          cases hf
          exact J_sub [0, 2, 3] rfl yk3
      · rw [if_neg c33] at hf
        refine J_bipush X (-4 : Int32) dX5_seen_36 (by decide) ?_
        cases hf
        exact J_iret X dX5_seen_38
    · rw [if_pos c18] at hf
      refine J_bipush X (-2 : Int32) dX5_seen_21 (by decide) ?_
      cases hf
      exact J_iret X dX5_seen_23
theorem hd_X5_forget : yX5_forget.cls ≠ "java/lang/invoke/MethodHandle" ∧ yX5_forget.cls ≠ "java/lang/invoke/VarHandle" ∧ (parseMethodDescriptor yX5_forget.desc).map (fun d => d.parameters.length) = some 0 := by decide +kernel
set_option maxHeartbeats 4000000 in
set_option maxRecDepth 100000 in
theorem c_X5_forget (l : Launch) (o : Om) (emb : Hp → va_W) (A : Nat → Prop) (hA : ∀ h : Hp, va_D A (emb h)) (hO : isX5 o emb) (h : Hp) (r : Int32) (h' : Hp) (hf : f_X5_forget h = some (r, h')) : Ct l o emb A yX5_forget cX5_forget 2 (some .int) 0 0 [.ref (o.1 0)] h (some (.int r)) h' := by
  refine Ct.of RX5 rfl (by decide +kernel) hA (Nat.le_of_ble_eq_true rfl) (fun p e s m args below meth c X => ?_)
  refine J_sub (lo' := [(0, .ref (o.1 0))]) [0] rfl ?_
  rw [f_X5_forget] at hf
  refine J_aload_n X 0 dX5_forget_0 rfl rfl ?_
  refine J_get X hO.1 inX5 rfl 1 (Nat.le_of_ble_eq_true rfl) wd_169 rfl (v := .ref (o.1 5)) rfl dX5_forget_1 ?_
  refine J_getN X hO.2.2.1.1 inX3 rfl 3 (Nat.le_of_ble_eq_true rfl) nw_91 rfl (v := .int (h.1 5 3)) rfl dX5_forget_4 ?_
  obtain ⟨v1, qv1, hf⟩ := ob hf
  refine J_topi v1 (Option.some.inj qv1) ?_
  refine J_istore_n X [(1, .int v1), (0, .ref (o.1 0))] dX5_forget_7 rfl (Nat.le_of_ble_eq_true rfl) rfl ?_
  refine J_aload_n X 1 dX5_forget_8 rfl rfl ?_
  refine J_get X hO.1 inX5 rfl 1 (Nat.le_of_ble_eq_true rfl) wd_169 rfl (v := .ref (o.1 5)) rfl dX5_forget_9 ?_
  refine J_const X (0 : Int32) dX5_forget_12 (by decide) ?_
  obtain ⟨h2, qh2, hf⟩ := ob hf
  refine J_putN X hO.2.2.1.1 inX3 tyX3 tyX3_ok nmX3 rfl 3 (Nat.le_of_ble_eq_true rfl) (by decide) nw_91 rfl rfl (ty := .int) (by decide +kernel) rfl rfl (Nat.le_of_ble_eq_true rfl) dX5_forget_13 ?_
  refine J_hp h2 (Option.some.inj qh2) ?_
  refine J_iload_n X 0 dX5_forget_16 rfl rfl ?_
  cases hf
  exact J_iret X dX5_forget_17
theorem hd_X5_gatherFitting : yX5_gatherFitting.cls ≠ "java/lang/invoke/MethodHandle" ∧ yX5_gatherFitting.cls ≠ "java/lang/invoke/VarHandle" ∧ (parseMethodDescriptor yX5_gatherFitting.desc).map (fun d => d.parameters.length) = some 0 := by decide +kernel
set_option maxHeartbeats 4000000 in
set_option maxRecDepth 100000 in
theorem cf_X5_gatherFitting_l4 {R : Type} (hA : ∀ h : Hp, va_D A (emb h)) (X : Cx p s m args meth c RX5 cX5_gatherFitting 3 (some .int) o)  (hO : isX5 o emb)  {kx : Int32 → Int32 → Hp → Option R} (t : R) : ∀ (n : Nat) (s1 : Int32) (s2 : Int32) (h : Hp), f_X5_gatherFitting_l4 kx n s1 s2 h = some t → (∀ (s1 : Int32) (s2 : Int32) (h : Hp), kx s1 s2 h = some t → J p l e (rmf 2 47) s m args below meth c 0 0 Z o emb A H0 3 40 [(1, .int s1)] [] h) → J p l e (rmf 2 47) s m args below meth c 0 0 Z o emb A H0 3 4 [(0, .ref (o.1 0)), (1, .int s1), (2, .int s2)] [] h := by
  intro n
  induction n with
  | zero =>
    intro s1 s2 h hf hk
    cases hf
  | succ n ih =>
    intro s1 s2 h hf hk
    rw [f_X5_gatherFitting_l4] at hf
    refine J_iload_n X 2 dX5_gatherFitting_4 rfl rfl ?_
    refine J_sipush X (1000 : Int32) dX5_gatherFitting_5 (by decide) ?_
    refine J_icmp_ge (tgt := 40) X dX5_gatherFitting_8 (by decide) (fun c8 => ?_) (fun c8 => ?_)
    · rw [if_pos c8] at hf
      exact J_sub [1] rfl (hk s1 s2 h hf)
    · rw [if_neg c8] at hf
      refine J_aload_n X 0 dX5_gatherFitting_11 rfl rfl ?_
      refine J_get X hO.1 inX5 rfl 1 (Nat.le_of_ble_eq_true rfl) wd_169 rfl (v := .ref (o.1 5)) rfl dX5_gatherFitting_12 ?_
      refine J_iload_n X 2 dX5_gatherFitting_15 rfl rfl ?_
      obtain ⟨v1, qv1, hf⟩ := ob hf
      refine J_callV X (rest := []) (rs := [.int v1]) (c_X3_allowGuess l o emb A hA 5 hO.2.2.1 s2 h v1 qv1) hO.2.2.1.1 rfl rfl wd_514 wd_515 wd_516 wd_37 wd_517 hd_X3_allowGuess ⟨Nat.le_of_ble_eq_true rfl, Nat.le_of_ble_eq_true rfl⟩ ⟨Nat.zero_le _, Nat.zero_le _⟩ (Nat.le_of_ble_eq_true rfl) dX5_gatherFitting_16 rfl rfl ?_
      refine J_if_eq (tgt := 34) X dX5_gatherFitting_19 (by decide) (fun c19 => ?_) (fun c19 => ?_)
      · rw [if_pos c19] at hf
        obtain ⟨v2, qv2, hf⟩ := ob hf
        refine J_iinc X 2 [(2, .int v2), (0, .ref (o.1 0)), (1, .int s1)] dX5_gatherFitting_34 rfl (Option.some.inj qv2) (Nat.le_of_ble_eq_true rfl) rfl ?_
        refine J_goto (tgt := 4) X dX5_gatherFitting_37 (by decide) ?_
        exact J_sub [1, 2, 0] rfl (ih s1 v2 h hf hk)
      · rw [if_neg c19] at hf
        refine J_aload_n X 0 dX5_gatherFitting_22 rfl rfl ?_
        refine J_get X hO.1 inX5 rfl 9 (Nat.le_of_ble_eq_true rfl) wd_177 rfl (v := .ref (o.1 37)) rfl dX5_gatherFitting_23 ?_
        refine J_iload_n X 1 dX5_gatherFitting_26 rfl rfl ?_
        refine J_iload_n X 2 dX5_gatherFitting_27 rfl rfl ?_
        obtain ⟨h3, qh3, hf⟩ := ob hf
        refine J_callS X (rest := []) (rs := []) (c_X5_put l o emb A hA 37 1000 hO.2.2.2.2.2.2.2.2.2.2.1 s1 s2 h h3 qh3) wd_427 wd_225 wd_34 wd_226 hd_X5_put ⟨Nat.le_of_ble_eq_true rfl, Nat.le_of_ble_eq_true rfl⟩ ⟨Nat.zero_le _, Nat.zero_le _⟩ (Nat.le_of_ble_eq_true rfl) dX5_gatherFitting_28 rfl rfl ?_
        obtain ⟨v4, qv4, hf⟩ := ob hf
        refine J_iinc X 1 [(1, .int v4), (0, .ref (o.1 0)), (2, .int s2)] dX5_gatherFitting_31 rfl (Option.some.inj qv4) (Nat.le_of_ble_eq_true rfl) rfl ?_
        obtain ⟨v5, qv5, hf⟩ := ob hf
        refine J_iinc X 2 [(2, .int v5), (1, .int v4), (0, .ref (o.1 0))] dX5_gatherFitting_34 rfl (Option.some.inj qv5) (Nat.le_of_ble_eq_true rfl) rfl ?_
        refine J_goto (tgt := 4) X dX5_gatherFitting_37 (by decide) ?_
        exact J_sub [2, 1, 0] rfl (ih v4 v5 h3 hf hk)
set_option maxHeartbeats 4000000 in
set_option maxRecDepth 100000 in
theorem c_X5_gatherFitting (l : Launch) (o : Om) (emb : Hp → va_W) (A : Nat → Prop) (hA : ∀ h : Hp, va_D A (emb h)) (hO : isX5 o emb) (h : Hp) (r : Int32) (h' : Hp) (hf : f_X5_gatherFitting h = some (r, h')) : Ct l o emb A yX5_gatherFitting cX5_gatherFitting 3 (some .int) 2 47 [.ref (o.1 0)] h (some (.int r)) h' := by
  refine Ct.of RX5 rfl (by decide +kernel) hA (Nat.le_of_ble_eq_true rfl) (fun p e s m args below meth c X => ?_)
  refine J_sub (lo' := [(0, .ref (o.1 0))]) [0] rfl ?_
  rw [f_X5_gatherFitting] at hf
  refine J_const X (0 : Int32) dX5_gatherFitting_0 (by decide) ?_
  refine J_istore_n X [(1, .int (0 : Int32)), (0, .ref (o.1 0))] dX5_gatherFitting_1 rfl (Nat.le_of_ble_eq_true rfl) rfl ?_
  refine J_const X (0 : Int32) dX5_gatherFitting_2 (by decide) ?_
  refine J_istore_n X [(2, .int (0 : Int32)), (1, .int (0 : Int32)), (0, .ref (o.1 0))] dX5_gatherFitting_3 rfl (Nat.le_of_ble_eq_true rfl) rfl ?_
  refine J_sub (lo' := [(0, .ref (o.1 0)), (1, .int (0 : Int32)), (2, .int (0 : Int32))]) [2, 1, 0] rfl ?_
  refine cf_X5_gatherFitting_l4 hA X  hO  _ _ (0 : Int32) (0 : Int32) h hf (fun w6 w7 h8 hf => ?_)
  refine J_iload_n X 0 dX5_gatherFitting_40 rfl rfl ?_
  cases hf
  exact J_iret X dX5_gatherFitting_41
theorem hd_X5_who : yX5_who.cls ≠ "java/lang/invoke/MethodHandle" ∧ yX5_who.cls ≠ "java/lang/invoke/VarHandle" ∧ (parseMethodDescriptor yX5_who.desc).map (fun d => d.parameters.length) = some 1 := by decide +kernel
set_option maxHeartbeats 4000000 in
set_option maxRecDepth 100000 in
theorem c_X5_who (l : Launch) (o : Om) (emb : Hp → va_W) (A : Nat → Prop) (hA : ∀ h : Hp, va_D A (emb h)) (hO : isX5 o emb) (x1 : Int32) (h : Hp) (r : Int32) (h' : Hp) (hf : f_X5_who x1 h = some (r, h')) : Ct l o emb A yX5_who cX5_who 3 (some .int) 3 69 [.ref (o.1 0), .int x1] h (some (.int r)) h' := by
  refine Ct.of RX5 rfl (by decide +kernel) hA (Nat.le_of_ble_eq_true rfl) (fun p e s m args below meth c X => ?_)
  refine J_sub (lo' := [(0, .ref (o.1 0)), (1, .int x1)]) [0, 1] rfl ?_
  rw [f_X5_who] at hf
  refine J_iload_n X 1 dX5_who_0 rfl rfl ?_
  refine J_const X (-1 : Int32) dX5_who_1 (by decide) ?_
  refine J_icmp_ge (tgt := 8) X dX5_who_2 (by decide) (fun c2 => ?_) (fun c2 => ?_)
  · rw [if_pos c2] at hf
    refine J_aload_n X 0 dX5_who_8 rfl rfl ?_
    obtain ⟨t1, qt1, hf⟩ := ob hf
    refine J_callV X (rest := []) (rs := [.int t1.1]) (c_X5_gatherFitting l o emb A hA hO h t1.1 t1.2 qt1) hO.1 rfl rfl wd_510 wd_512 wd_9 wd_34 wd_513 hd_X5_gatherFitting ⟨Nat.le_of_ble_eq_true rfl, Nat.le_of_ble_eq_true rfl⟩ ⟨Nat.zero_le _, Nat.zero_le _⟩ (Nat.le_of_ble_eq_true rfl) dX5_who_9 rfl rfl ?_
    refine J_istore_n X [(2, .int t1.1), (0, .ref (o.1 0)), (1, .int x1)] dX5_who_12 rfl (Nat.le_of_ble_eq_true rfl) rfl ?_
    refine J_iload_n X 2 dX5_who_13 rfl rfl ?_
    refine J_const X (-1 : Int32) dX5_who_14 (by decide) ?_
    refine J_icmp_ne (tgt := 20) X dX5_who_15 (by decide) (fun c15 => ?_) (fun c15 => ?_)
    · rw [if_neg c15] at hf
      refine J_iload_n X 2 dX5_who_20 rfl rfl ?_
      refine J_iload_n X 0 dX5_who_21 rfl rfl ?_
      refine J_icmp_ge (tgt := 36) X dX5_who_22 (by decide) (fun c22 => ?_) (fun c22 => ?_)
      · rw [if_pos c22] at hf
        refine J_bipush X (-6 : Int32) dX5_who_36 (by decide) ?_
        cases hf
        exact J_iret X dX5_who_38
      · rw [if_neg c22] at hf
        refine J_aload_n X 1 dX5_who_25 rfl rfl ?_
        refine J_get X hO.1 inX5 rfl 9 (Nat.le_of_ble_eq_true rfl) wd_177 rfl (v := .ref (o.1 37)) rfl dX5_who_26 ?_
        refine J_iload_n X 2 dX5_who_29 rfl rfl ?_
        obtain ⟨v2, qv2, hf⟩ := ob hf
        refine J_callS X (rest := []) (rs := [.int v2]) (c_X5_at l o emb A hA 37 1000 hO.2.2.2.2.2.2.2.2.2.2.1 x1 t1.2 v2 qv2) wd_432 wd_255 wd_34 wd_256 hd_X5_at ⟨Nat.le_of_ble_eq_true rfl, Nat.le_of_ble_eq_true rfl⟩ ⟨Nat.zero_le _, Nat.zero_le _⟩ (Nat.le_of_ble_eq_true rfl) dX5_who_30 rfl rfl ?_
        refine J_goto (tgt := 38) X dX5_who_33 (by decide) ?_
        cases hf
        exact J_iret X dX5_who_38
    · rw [if_pos c15] at hf
      refine J_iload_n X 0 dX5_who_18 rfl rfl ?_
      cases hf
      exact J_iret X dX5_who_19
  · rw [if_neg c2] at hf
    refine J_bipush X (-6 : Int32) dX5_who_5 (by decide) ?_
    cases hf
    exact J_iret X dX5_who_7
theorem hd_X5_mostLeft : yX5_mostLeft.cls ≠ "java/lang/invoke/MethodHandle" ∧ yX5_mostLeft.cls ≠ "java/lang/invoke/VarHandle" ∧ (parseMethodDescriptor yX5_mostLeft.desc).map (fun d => d.parameters.length) = some 3 := by decide +kernel
set_option maxHeartbeats 4000000 in
set_option maxRecDepth 100000 in
theorem cf_X5_mostLeft_l14 {R : Type} (hA : ∀ h : Hp, va_D A (emb h)) (X : Cx p s m args meth c RX5 cX5_mostLeft 8 (some .int) o)  (hO : isX5 o emb) (s1 : Int32) (s2 : Int32) (s3 : Int32) {kx : Int32 → Int32 → Hp → Option R} (t : R) : ∀ (n : Nat) (s4 : Int32) (s5 : Int32) (h : Hp), f_X5_mostLeft_l14 s1 s2 s3 kx n s4 s5 h = some t → (∀ (s4 : Int32) (s5 : Int32) (h : Hp), kx s4 s5 h = some t → J p l e (rmf 1 25) s m args below meth c 0 0 Z o emb A H0 8 75 [(4, .int s4)] [] h) → J p l e (rmf 1 25) s m args below meth c 0 0 Z o emb A H0 8 14 [(0, .ref (o.1 0)), (1, .int s1), (2, .int s2), (3, .int s3), (4, .int s4), (5, .int s5)] [] h := by
  intro n
  induction n with
  | zero =>
    intro s4 s5 h hf hk
    cases hf
  | succ n ih =>
    intro s4 s5 h hf hk
    rw [f_X5_mostLeft_l14] at hf
    refine J_iload X 5 dX5_mostLeft_14 rfl ?_
    refine J_iload_n X 3 dX5_mostLeft_16 rfl rfl ?_
    refine J_icmp_ge (tgt := 75) X dX5_mostLeft_17 (by decide) (fun c17 => ?_) (fun c17 => ?_)
    · rw [if_pos c17] at hf
      exact J_sub [4] rfl (hk s4 s5 h hf)
    · rw [if_neg c17] at hf
      refine J_iload_n X 1 dX5_mostLeft_20 rfl rfl ?_
      refine J_iload_n X 2 dX5_mostLeft_21 rfl rfl ?_
      refine J_aload_n X 0 dX5_mostLeft_22 rfl rfl ?_
      refine J_get X hO.1 inX5 rfl 9 (Nat.le_of_ble_eq_true rfl) wd_177 rfl (v := .ref (o.1 37)) rfl dX5_mostLeft_23 ?_
      refine J_iload X 5 dX5_mostLeft_26 rfl ?_
      obtain ⟨v2, qv2, hf⟩ := ob hf
      refine J_callS X (rest := [.int s2, .int s1]) (rs := [.int v2, .int s2, .int s1]) (c_X5_at l o emb A hA 37 1000 hO.2.2.2.2.2.2.2.2.2.2.1 s5 h v2 qv2) wd_432 wd_255 wd_34 wd_256 hd_X5_at ⟨Nat.le_of_ble_eq_true rfl, Nat.le_of_ble_eq_true rfl⟩ ⟨Nat.zero_le _, Nat.zero_le _⟩ (Nat.le_of_ble_eq_true rfl) dX5_mostLeft_28 rfl rfl ?_
      obtain ⟨v3, qv3, hf⟩ := ob hf
      refine J_callS X (rest := []) (rs := [.int v3]) (c_X5_reading l o emb A hA s1 s2 v2 h v3 qv3) wd_530 wd_520 wd_34 wd_521 hd_X5_reading ⟨Nat.le_of_ble_eq_true rfl, Nat.le_of_ble_eq_true rfl⟩ ⟨Nat.zero_le _, Nat.zero_le _⟩ (Nat.le_of_ble_eq_true rfl) dX5_mostLeft_31 rfl rfl ?_
      refine J_istore X [(6, .int v3), (0, .ref (o.1 0)), (1, .int s1), (2, .int s2), (3, .int s3), (4, .int s4), (5, .int s5)] dX5_mostLeft_34 (Nat.le_of_ble_eq_true rfl) rfl ?_
      refine J_aload_n X 1 dX5_mostLeft_36 rfl rfl ?_
      refine J_get X hO.1 inX5 rfl 10 (Nat.le_of_ble_eq_true rfl) wd_178 rfl (v := .ref (o.1 38)) rfl dX5_mostLeft_37 ?_
      refine J_iload X 0 dX5_mostLeft_40 rfl ?_
      obtain ⟨v4, qv4, hf⟩ := ob hf
      refine J_callS X (rest := []) (rs := [.int v4]) (c_X5_at l o emb A hA 38 280 hO.2.2.2.2.2.2.2.2.2.2.2.1 v3 h v4 qv4) wd_432 wd_255 wd_34 wd_256 hd_X5_at ⟨Nat.le_of_ble_eq_true rfl, Nat.le_of_ble_eq_true rfl⟩ ⟨Nat.zero_le _, Nat.zero_le _⟩ (Nat.le_of_ble_eq_true rfl) dX5_mostLeft_42 rfl rfl ?_
      refine J_const X (1 : Int32) dX5_mostLeft_45 (by decide) ?_
      refine J_iadd X dX5_mostLeft_46 ?_
      obtain ⟨v5, qv5, hf⟩ := ob hf
      refine J_topi v5 (Option.some.inj qv5) ?_
      refine J_istore X [(7, .int v5), (6, .int v3), (0, .ref (o.1 0)), (1, .int s1), (2, .int s2), (3, .int s3), (4, .int s4), (5, .int s5)] dX5_mostLeft_47 (Nat.le_of_ble_eq_true rfl) rfl ?_
      refine J_aload_n X 2 dX5_mostLeft_49 rfl rfl ?_
      refine J_get X hO.1 inX5 rfl 10 (Nat.le_of_ble_eq_true rfl) wd_178 rfl (v := .ref (o.1 38)) rfl dX5_mostLeft_50 ?_
      refine J_iload X 1 dX5_mostLeft_53 rfl ?_
      refine J_iload X 0 dX5_mostLeft_55 rfl ?_
      obtain ⟨h6, qh6, hf⟩ := ob hf
      refine J_callS X (rest := []) (rs := []) (c_X5_put l o emb A hA 38 280 hO.2.2.2.2.2.2.2.2.2.2.2.1 v3 v5 h h6 qh6) wd_427 wd_225 wd_34 wd_226 hd_X5_put ⟨Nat.le_of_ble_eq_true rfl, Nat.le_of_ble_eq_true rfl⟩ ⟨Nat.zero_le _, Nat.zero_le _⟩ (Nat.le_of_ble_eq_true rfl) dX5_mostLeft_57 rfl rfl ?_
      refine J_iload X 6 dX5_mostLeft_60 rfl ?_
      refine J_iload X 0 dX5_mostLeft_62 rfl ?_
      refine J_mmax X wd_355 wd_356 wd_43 wd_357 ⟨Nat.le_of_ble_eq_true rfl, Nat.le_of_ble_eq_true rfl, Nat.zero_le _, Nat.zero_le _⟩ dX5_mostLeft_64 ?_
      obtain ⟨v7, qv7, hf⟩ := ob hf
      refine J_topi v7 (Option.some.inj qv7) ?_
      refine J_istore X [(4, .int v7), (7, .int v5), (6, .int v3), (0, .ref (o.1 0)), (1, .int s1), (2, .int s2), (3, .int s3), (5, .int s5)] dX5_mostLeft_67 (Nat.le_of_ble_eq_true rfl) rfl ?_
      obtain ⟨v8, qv8, hf⟩ := ob hf
      refine J_iinc X 7 [(5, .int v8), (4, .int v7), (7, .int v5), (6, .int v3), (0, .ref (o.1 0)), (1, .int s1), (2, .int s2), (3, .int s3)] dX5_mostLeft_69 rfl (Option.some.inj qv8) (Nat.le_of_ble_eq_true rfl) rfl ?_
      refine J_goto (tgt := 14) X dX5_mostLeft_72 (by decide) ?_
      exact J_sub [4, 5, 6, 7, 1, 0] rfl (ih v7 v8 h6 hf hk)
set_option maxHeartbeats 4000000 in
set_option maxRecDepth 100000 in
theorem c_X5_mostLeft (l : Launch) (o : Om) (emb : Hp → va_W) (A : Nat → Prop) (hA : ∀ h : Hp, va_D A (emb h)) (hO : isX5 o emb) (x1 : Int32) (x2 : Int32) (x3 : Int32) (h : Hp) (r : Int32) (h' : Hp) (hf : f_X5_mostLeft x1 x2 x3 h = some (r, h')) : Ct l o emb A yX5_mostLeft cX5_mostLeft 8 (some .int) 1 25 [.ref (o.1 0), .int x1, .int x2, .int x3] h (some (.int r)) h' := by
  refine Ct.of RX5 rfl (by decide +kernel) hA (Nat.le_of_ble_eq_true rfl) (fun p e s m args below meth c X => ?_)
  refine J_sub (lo' := [(0, .ref (o.1 0)), (1, .int x1), (2, .int x2), (3, .int x3)]) [0, 1, 2, 3] rfl ?_
  rw [f_X5_mostLeft] at hf
  refine J_aload_n X 0 dX5_mostLeft_0 rfl rfl ?_
  refine J_get X hO.1 inX5 rfl 10 (Nat.le_of_ble_eq_true rfl) wd_178 rfl (v := .ref (o.1 38)) rfl dX5_mostLeft_1 ?_
  refine J_const X (0 : Int32) dX5_mostLeft_4 (by decide) ?_
  obtain ⟨h1, qh1, hf⟩ := ob hf
  refine J_callS X (rest := []) (rs := []) (c_J7_fill_53178 l o emb A hA 38 280 hO.2.2.2.2.2.2.2.2.2.2.2.1 (0 : Int32) h h1 qh1) wd_426 wd_59 wd_36 wd_60 hd_J7_fill_53178 ⟨Nat.le_of_ble_eq_true rfl, Nat.le_of_ble_eq_true rfl⟩ ⟨Nat.zero_le _, Nat.zero_le _⟩ (Nat.le_of_ble_eq_true rfl) dX5_mostLeft_5 rfl rfl ?_
  refine J_const X (0 : Int32) dX5_mostLeft_8 (by decide) ?_
  refine J_istore X [(4, .int (0 : Int32)), (0, .ref (o.1 0)), (1, .int x1), (2, .int x2), (3, .int x3)] dX5_mostLeft_9 (Nat.le_of_ble_eq_true rfl) rfl ?_
  refine J_const X (0 : Int32) dX5_mostLeft_11 (by decide) ?_
  refine J_istore X [(5, .int (0 : Int32)), (4, .int (0 : Int32)), (0, .ref (o.1 0)), (1, .int x1), (2, .int x2), (3, .int x3)] dX5_mostLeft_12 (Nat.le_of_ble_eq_true rfl) rfl ?_
  refine J_sub (lo' := [(0, .ref (o.1 0)), (1, .int x1), (2, .int x2), (3, .int x3), (4, .int (0 : Int32)), (5, .int (0 : Int32))]) [2, 3, 4, 5, 1, 0] rfl ?_
  refine cf_X5_mostLeft_l14 hA X  hO x1 x2 x3 _ _ (0 : Int32) (0 : Int32) h1 hf (fun w9 w10 h11 hf => ?_)
  refine J_iload X 0 dX5_mostLeft_75 rfl ?_
  cases hf
  exact J_iret X dX5_mostLeft_77
theorem hd_X5_ask : yX5_ask.cls ≠ "java/lang/invoke/MethodHandle" ∧ yX5_ask.cls ≠ "java/lang/invoke/VarHandle" ∧ (parseMethodDescriptor yX5_ask.desc).map (fun d => d.parameters.length) = some 1 := by decide +kernel
set_option maxHeartbeats 4000000 in
set_option maxRecDepth 100000 in
theorem cf_X5_ask_l44 {R : Type} (hA : ∀ h : Hp, va_D A (emb h)) (X : Cx p s m args meth c RX5 cX5_ask 8 (some .int) o)  (hO : isX5 o emb) (s1 : Int32) (s2 : Int32) (s5 : Int32) {kx : Int32 → Int32 → Int32 → Hp → Option R} (t : R) : ∀ (n : Nat) (s3 : Int32) (s4 : Int32) (s6 : Int32) (h : Hp), f_X5_ask_l44 s1 s2 s5 kx n s3 s4 s6 h = some t → (∀ (s3 : Int32) (s4 : Int32) (s6 : Int32) (h : Hp), kx s3 s4 s6 h = some t → J p l e (rmf 3 69) s m args below meth c 0 0 Z o emb A H0 8 87 [(0, .ref (o.1 0)), (1, .int s1), (2, .int s2), (3, .int s3), (4, .int s4), (5, .int s5)] [] h) → J p l e (rmf 3 69) s m args below meth c 0 0 Z o emb A H0 8 44 [(0, .ref (o.1 0)), (1, .int s1), (2, .int s2), (3, .int s3), (4, .int s4), (5, .int s5), (6, .int s6)] [] h := by
  intro n
  induction n with
  | zero =>
    intro s3 s4 s6 h hf hk
    cases hf
  | succ n ih =>
    intro s3 s4 s6 h hf hk
    rw [f_X5_ask_l44] at hf
    refine J_iload X 6 dX5_ask_44 rfl ?_
    refine J_const X (1 : Int32) dX5_ask_46 (by decide) ?_
    refine J_icmp_gt (tgt := 87) X dX5_ask_47 (by decide) (fun c47 => ?_) (fun c47 => ?_)
    · rw [if_pos c47] at hf
      exact J_sub [0, 1, 2, 3, 4, 5] rfl (hk s3 s4 s6 h hf)
    · rw [if_neg c47] at hf
      refine J_aload_n X 0 dX5_ask_50 rfl rfl ?_
      refine J_iload X 6 dX5_ask_51 rfl ?_
      refine J_iload X 5 dX5_ask_53 rfl ?_
      refine J_iload_n X 2 dX5_ask_55 rfl rfl ?_
      obtain ⟨t3, qt3, hf⟩ := ob hf
      refine J_callV X (rest := []) (rs := [.int t3.1]) (c_X5_mostLeft l o emb A hA hO s6 s5 s2 h t3.1 t3.2 qt3) hO.1 rfl rfl wd_526 wd_528 wd_10 wd_34 wd_529 hd_X5_mostLeft ⟨Nat.le_of_ble_eq_true rfl, Nat.le_of_ble_eq_true rfl⟩ ⟨Nat.zero_le _, Nat.zero_le _⟩ (Nat.le_of_ble_eq_true rfl) dX5_ask_56 rfl rfl ?_
      refine J_istore X [(7, .int t3.1), (0, .ref (o.1 0)), (1, .int s1), (2, .int s2), (3, .int s3), (4, .int s4), (5, .int s5), (6, .int s6)] dX5_ask_59 (Nat.le_of_ble_eq_true rfl) rfl ?_
      refine J_iload X 0 dX5_ask_61 rfl ?_
      refine J_iload X 5 dX5_ask_63 rfl ?_
      refine J_icmp_ge (tgt := 81) X dX5_ask_65 (by decide) (fun c65 => ?_) (fun c65 => ?_)
      · rw [if_pos c65] at hf
        obtain ⟨v4, qv4, hf⟩ := ob hf
        refine J_iinc X 7 [(6, .int v4), (7, .int t3.1), (0, .ref (o.1 0)), (1, .int s1), (2, .int s2), (3, .int s3), (4, .int s4), (5, .int s5)] dX5_ask_81 rfl (Option.some.inj qv4) (Nat.le_of_ble_eq_true rfl) rfl ?_
        refine J_goto (tgt := 44) X dX5_ask_84 (by decide) ?_
        exact J_sub [2, 3, 4, 5, 6, 7, 0] rfl (ih s3 s4 v4 t3.2 hf hk)
      · rw [if_neg c65] at hf
        refine J_iload X 0 dX5_ask_68 rfl ?_
        refine J_istore X [(4, .int t3.1), (7, .int t3.1), (0, .ref (o.1 0)), (1, .int s1), (2, .int s2), (3, .int s3), (5, .int s5), (6, .int s6)] dX5_ask_70 (Nat.le_of_ble_eq_true rfl) rfl ?_
        refine J_bipush X (10 : Int32) dX5_ask_72 (by decide) ?_
        refine J_iload X 6 dX5_ask_74 rfl ?_
        refine J_imul X dX5_ask_76 ?_
        refine J_iload X 7 dX5_ask_77 rfl ?_
        refine J_iadd X dX5_ask_79 ?_
        obtain ⟨v5, qv5, hf⟩ := ob hf
        refine J_topi v5 (Option.some.inj qv5) ?_
        refine J_istore_n X [(3, .int v5), (4, .int t3.1), (7, .int t3.1), (0, .ref (o.1 0)), (1, .int s1), (2, .int s2), (5, .int s5), (6, .int s6)] dX5_ask_80 rfl (Nat.le_of_ble_eq_true rfl) rfl ?_
        obtain ⟨v6, qv6, hf⟩ := ob hf
        refine J_iinc X 7 [(6, .int v6), (3, .int v5), (4, .int t3.1), (7, .int t3.1), (0, .ref (o.1 0)), (1, .int s1), (2, .int s2), (5, .int s5)] dX5_ask_81 rfl (Option.some.inj qv6) (Nat.le_of_ble_eq_true rfl) rfl ?_
        refine J_goto (tgt := 44) X dX5_ask_84 (by decide) ?_
        exact J_sub [4, 5, 6, 1, 2, 7, 0] rfl (ih v5 t3.1 v6 t3.2 hf hk)
set_option maxHeartbeats 4000000 in
set_option maxRecDepth 100000 in
theorem cf_X5_ask_l34 {R : Type} (hA : ∀ h : Hp, va_D A (emb h)) (X : Cx p s m args meth c RX5 cX5_ask 8 (some .int) o)  (hO : isX5 o emb) (s1 : Int32) (s2 : Int32) {kx : Int32 → Int32 → Int32 → Hp → Option R} (t : R) : ∀ (n : Nat) (s3 : Int32) (s4 : Int32) (s5 : Int32) (h : Hp), f_X5_ask_l34 s1 s2 kx n s3 s4 s5 h = some t → (∀ (s3 : Int32) (s4 : Int32) (s5 : Int32) (h : Hp), kx s3 s4 s5 h = some t → J p l e (rmf 3 69) s m args below meth c 0 0 Z o emb A H0 8 93 [(1, .int s1), (3, .int s3), (4, .int s4)] [] h) → J p l e (rmf 3 69) s m args below meth c 0 0 Z o emb A H0 8 34 [(0, .ref (o.1 0)), (1, .int s1), (2, .int s2), (3, .int s3), (4, .int s4), (5, .int s5)] [] h := by
  intro n
  induction n with
  | zero =>
    intro s3 s4 s5 h hf hk
    cases hf
  | succ n ih =>
    intro s3 s4 s5 h hf hk
    rw [f_X5_ask_l34] at hf
    refine J_iload X 5 dX5_ask_34 rfl ?_
    refine J_bipush X (10 : Int32) dX5_ask_36 (by decide) ?_
    refine J_icmp_gt (tgt := 93) X dX5_ask_38 (by decide) (fun c38 => ?_) (fun c38 => ?_)
    · rw [if_pos c38] at hf
      exact J_sub [1, 3, 4] rfl (hk s3 s4 s5 h hf)
    · rw [if_neg c38] at hf
      refine J_const X (0 : Int32) dX5_ask_41 (by decide) ?_
      refine J_istore X [(6, .int (0 : Int32)), (0, .ref (o.1 0)), (1, .int s1), (2, .int s2), (3, .int s3), (4, .int s4), (5, .int s5)] dX5_ask_42 (Nat.le_of_ble_eq_true rfl) rfl ?_
      refine J_sub (lo' := [(0, .ref (o.1 0)), (1, .int s1), (2, .int s2), (3, .int s3), (4, .int s4), (5, .int s5), (6, .int (0 : Int32))]) [1, 2, 3, 4, 5, 6, 0] rfl ?_
      refine cf_X5_ask_l44 hA X  hO s1 s2 s5 _ _ s3 s4 (0 : Int32) h hf (fun w7 w8 w9 h10 hf => ?_)
      obtain ⟨v11, qv11, hf⟩ := ob hf
      refine J_iinc X 5 [(5, .int v11), (0, .ref (o.1 0)), (1, .int s1), (2, .int s2), (3, .int w7), (4, .int w8)] dX5_ask_87 rfl (Option.some.inj qv11) (Nat.le_of_ble_eq_true rfl) rfl ?_
      refine J_goto (tgt := 34) X dX5_ask_90 (by decide) ?_
      exact J_sub [1, 2, 3, 4, 5, 0] rfl (ih w7 w8 v11 h10 hf hk)
set_option maxHeartbeats 4000000 in
set_option maxRecDepth 100000 in
theorem c_X5_ask (l : Launch) (o : Om) (emb : Hp → va_W) (A : Nat → Prop) (hA : ∀ h : Hp, va_D A (emb h)) (hO : isX5 o emb) (x1 : Int32) (h : Hp) (r : Int32) (h' : Hp) (hf : f_X5_ask x1 h = some (r, h')) : Ct l o emb A yX5_ask cX5_ask 8 (some .int) 3 69 [.ref (o.1 0), .int x1] h (some (.int r)) h' := by
  refine Ct.of RX5 rfl (by decide +kernel) hA (Nat.le_of_ble_eq_true rfl) (fun p e s m args below meth c X => ?_)
  refine J_sub (lo' := [(0, .ref (o.1 0)), (1, .int x1)]) [0, 1] rfl ?_
  rw [f_X5_ask] at hf
  refine J_iload_n X 1 dX5_ask_0 rfl rfl ?_
  refine J_const X (0 : Int32) dX5_ask_1 (by decide) ?_
  refine J_const X (1 : Int32) dX5_ask_2 (by decide) ?_
  obtain ⟨v1, qv1, hf⟩ := ob hf
  refine J_callS X (rest := []) (rs := [.int v1]) (c_X5_within l o emb A hA x1 (0 : Int32) (1 : Int32) h v1 qv1) wd_216 wd_217 wd_34 wd_218 hd_X5_within ⟨Nat.le_of_ble_eq_true rfl, Nat.le_of_ble_eq_true rfl⟩ ⟨Nat.zero_le _, Nat.zero_le _⟩ (Nat.le_of_ble_eq_true rfl) dX5_ask_3 rfl rfl ?_
  refine J_if_ne (tgt := 12) X dX5_ask_6 (by decide) (fun c6 => ?_) (fun c6 => ?_)
  · rw [if_neg c6] at hf
    refine J_aload_n X 0 dX5_ask_12 rfl rfl ?_
    obtain ⟨t2, qt2, hf⟩ := ob hf
    refine J_callV X (rest := []) (rs := [.int t2.1]) (c_X5_gatherFitting l o emb A hA hO h t2.1 t2.2 qt2) hO.1 rfl rfl wd_510 wd_512 wd_9 wd_34 wd_513 hd_X5_gatherFitting ⟨Nat.le_of_ble_eq_true rfl, Nat.le_of_ble_eq_true rfl⟩ ⟨Nat.zero_le _, Nat.zero_le _⟩ (Nat.le_of_ble_eq_true rfl) dX5_ask_13 rfl rfl ?_
    refine J_istore_n X [(2, .int t2.1), (0, .ref (o.1 0)), (1, .int x1)] dX5_ask_16 rfl (Nat.le_of_ble_eq_true rfl) rfl ?_
    refine J_iload_n X 0 dX5_ask_17 rfl rfl ?_
    refine J_if_ne (tgt := 24) X dX5_ask_18 (by decide) (fun c18 => ?_) (fun c18 => ?_)
    · rw [if_neg c18] at hf
      refine J_const X (0 : Int32) dX5_ask_24 (by decide) ?_
      refine J_istore_n X [(3, .int (0 : Int32)), (2, .int t2.1), (0, .ref (o.1 0)), (1, .int x1)] dX5_ask_25 rfl (Nat.le_of_ble_eq_true rfl) rfl ?_
      refine J_sipush X (1001 : Int32) dX5_ask_26 (by decide) ?_
      refine J_istore X [(4, .int (1001 : Int32)), (3, .int (0 : Int32)), (2, .int t2.1), (0, .ref (o.1 0)), (1, .int x1)] dX5_ask_29 (Nat.le_of_ble_eq_true rfl) rfl ?_
      refine J_const X (0 : Int32) dX5_ask_31 (by decide) ?_
      refine J_istore X [(5, .int (0 : Int32)), (4, .int (1001 : Int32)), (3, .int (0 : Int32)), (2, .int t2.1), (0, .ref (o.1 0)), (1, .int x1)] dX5_ask_32 (Nat.le_of_ble_eq_true rfl) rfl ?_
      refine J_sub (lo' := [(0, .ref (o.1 0)), (1, .int x1), (2, .int t2.1), (3, .int (0 : Int32)), (4, .int (1001 : Int32)), (5, .int (0 : Int32))]) [4, 5, 3, 2, 1, 0] rfl ?_
      refine cf_X5_ask_l34 hA X  hO x1 t2.1 _ _ (0 : Int32) (1001 : Int32) (0 : Int32) t2.2 hf (fun w12 w13 w14 h15 hf => ?_)
      refine J_iload_n X 0 dX5_ask_93 rfl rfl ?_
      refine J_if_ne (tgt := 101) X dX5_ask_94 (by decide) (fun c94 => ?_) (fun c94 => ?_)
      · rw [if_neg c94] at hf
        refine J_iload X 2 dX5_ask_101 rfl ?_
        cases hf
        exact J_iret X dX5_ask_103
      · rw [if_pos c94] at hf
        refine J_iload_n X 1 dX5_ask_97 rfl rfl ?_
        refine J_goto (tgt := 103) X dX5_ask_98 (by decide) ?_
        cases hf
        exact J_iret X dX5_ask_103
    · rw [if_pos c18] at hf
      refine J_bipush X (-6 : Int32) dX5_ask_21 (by decide) ?_
      cases hf
      exact J_iret X dX5_ask_23
  · rw [if_pos c6] at hf
    refine J_bipush X (-2 : Int32) dX5_ask_9 (by decide) ?_
    cases hf
    exact J_iret X dX5_ask_11
theorem hd_X5_winningTake : yX5_winningTake.cls ≠ "java/lang/invoke/MethodHandle" ∧ yX5_winningTake.cls ≠ "java/lang/invoke/VarHandle" ∧ (parseMethodDescriptor yX5_winningTake.desc).map (fun d => d.parameters.length) = some 2 := by decide +kernel
set_option maxHeartbeats 4000000 in
set_option maxRecDepth 100000 in
theorem cf_X5_winningTake_l2 (hA : ∀ h : Hp, va_D A (emb h)) (X : Cx p s m args meth c RX5 cX5_winningTake 4 (some .int) o)  (hO : isX5 o emb) (s1 : Int32) (s2 : Int32) (h : Hp) {kx : Int32 → Option Int32} (r : Int32) : ∀ (n : Nat) (s3 : Int32), f_X5_winningTake_l2 s1 s2 h kx n s3 = some r → (∀ (s3 : Int32), kx s3 = some r → J p l e (rmf 1 21) s m args below meth c 0 0 (MQ below (WdQ o emb A (some (.int r)) h) args s 0 0 A) o emb A s.heap 4 46 [] [] h) → J p l e (rmf 1 21) s m args below meth c 0 0 (MQ below (WdQ o emb A (some (.int r)) h) args s 0 0 A) o emb A s.heap 4 2 [(0, .ref (o.1 0)), (1, .int s1), (2, .int s2), (3, .int s3)] [] h := by
  intro n
  induction n with
  | zero =>
    intro s3 hf hk
    cases hf
  | succ n ih =>
    intro s3 hf hk
    rw [f_X5_winningTake_l2] at hf
    refine J_iload_n X 3 dX5_winningTake_2 rfl rfl ?_
    refine J_bipush X (9 : Int32) dX5_winningTake_3 (by decide) ?_
    refine J_icmp_gt (tgt := 46) X dX5_winningTake_5 (by decide) (fun c5 => ?_) (fun c5 => ?_)
    · rw [if_pos c5] at hf
      exact J_sub [] rfl (hk s3 hf)
    · rw [if_neg c5] at hf
      refine J_iload_n X 3 dX5_winningTake_8 rfl rfl ?_
      refine J_iload_n X 1 dX5_winningTake_9 rfl rfl ?_
      refine J_icmp_gt (tgt := 46) X dX5_winningTake_10 (by decide) (fun c10 => ?_) (fun c10 => ?_)
      · rw [if_pos c10] at hf
        exact J_sub [] rfl (hk s3 hf)
      · rw [if_neg c10] at hf
        refine J_iload_n X 2 dX5_winningTake_13 rfl rfl ?_
        refine J_iload_n X 3 dX5_winningTake_14 rfl rfl ?_
        refine J_const X (1 : Int32) dX5_winningTake_15 (by decide) ?_
        refine J_isub X dX5_winningTake_16 ?_
        obtain ⟨v1, qv1, hf⟩ := ob hf
        refine J_callS X (rest := []) (rs := [.int v1]) (c_X5_holds l o emb A hA s2 (s3 - (1 : Int32)) h v1 qv1) wd_445 wd_443 wd_34 wd_444 hd_X5_holds ⟨Nat.le_of_ble_eq_true rfl, Nat.le_of_ble_eq_true rfl⟩ ⟨Nat.zero_le _, Nat.zero_le _⟩ (Nat.le_of_ble_eq_true rfl) dX5_winningTake_17 rfl rfl ?_
        refine J_if_eq (tgt := 40) X dX5_winningTake_20 (by decide) (fun c20 => ?_) (fun c20 => ?_)
        · rw [if_pos c20] at hf
          obtain ⟨v2, qv2, hf⟩ := ob hf
          refine J_iinc X 3 [(3, .int v2), (0, .ref (o.1 0)), (1, .int s1), (2, .int s2)] dX5_winningTake_40 rfl (Option.some.inj qv2) (Nat.le_of_ble_eq_true rfl) rfl ?_
          refine J_goto (tgt := 2) X dX5_winningTake_43 (by decide) ?_
          exact J_sub [1, 2, 3, 0] rfl (ih v2 hf hk)
        · rw [if_neg c20] at hf
          refine J_aload_n X 0 dX5_winningTake_23 rfl rfl ?_
          refine J_get X hO.1 inX5 rfl 11 (Nat.le_of_ble_eq_true rfl) wd_179 rfl (v := .ref (o.1 39)) rfl dX5_winningTake_24 ?_
          refine J_iload_n X 1 dX5_winningTake_27 rfl rfl ?_
          refine J_iload_n X 3 dX5_winningTake_28 rfl rfl ?_
          refine J_isub X dX5_winningTake_29 ?_
          obtain ⟨v3, qv3, hf⟩ := ob hf
          refine J_callS X (rest := []) (rs := [.int v3]) (c_X5_at l o emb A hA 39 100 hO.2.2.2.2.2.2.2.2.2.2.2.2.1 (s1 - s3) h v3 qv3) wd_432 wd_255 wd_34 wd_256 hd_X5_at ⟨Nat.le_of_ble_eq_true rfl, Nat.le_of_ble_eq_true rfl⟩ ⟨Nat.zero_le _, Nat.zero_le _⟩ (Nat.le_of_ble_eq_true rfl) dX5_winningTake_30 rfl rfl ?_
          refine J_bipush X (-6 : Int32) dX5_winningTake_33 (by decide) ?_
          refine J_icmp_ne (tgt := 40) X dX5_winningTake_35 (by decide) (fun c35 => ?_) (fun c35 => ?_)
          · rw [if_neg c35] at hf
            obtain ⟨v4, qv4, hf⟩ := ob hf
            refine J_iinc X 3 [(3, .int v4), (0, .ref (o.1 0)), (1, .int s1), (2, .int s2)] dX5_winningTake_40 rfl (Option.some.inj qv4) (Nat.le_of_ble_eq_true rfl) rfl ?_
            refine J_goto (tgt := 2) X dX5_winningTake_43 (by decide) ?_
            exact J_sub [1, 2, 3, 0] rfl (ih v4 hf hk)
          · rw [if_pos c35] at hf
            refine J_iload_n X 3 dX5_winningTake_38 rfl rfl ?_
            cases hf
            exact J_iret X dX5_winningTake_39
set_option maxHeartbeats 4000000 in
set_option maxRecDepth 100000 in
theorem c_X5_winningTake (l : Launch) (o : Om) (emb : Hp → va_W) (A : Nat → Prop) (hA : ∀ h : Hp, va_D A (emb h)) (hO : isX5 o emb) (x1 : Int32) (x2 : Int32) (h : Hp) (r : Int32) (hf : f_X5_winningTake x1 x2 h = some r) : Ct l o emb A yX5_winningTake cX5_winningTake 4 (some .int) 1 21 [.ref (o.1 0), .int x1, .int x2] h (some (.int r)) h := by
  refine Ct.of RX5 rfl (by decide +kernel) hA (Nat.le_of_ble_eq_true rfl) (fun p e s m args below meth c X => ?_)
  refine J_sub (lo' := [(0, .ref (o.1 0)), (1, .int x1), (2, .int x2)]) [0, 1, 2] rfl ?_
  rw [f_X5_winningTake] at hf
  refine J_const X (1 : Int32) dX5_winningTake_0 (by decide) ?_
  refine J_istore_n X [(3, .int (1 : Int32)), (0, .ref (o.1 0)), (1, .int x1), (2, .int x2)] dX5_winningTake_1 rfl (Nat.le_of_ble_eq_true rfl) rfl ?_
  refine J_sub (lo' := [(0, .ref (o.1 0)), (1, .int x1), (2, .int x2), (3, .int (1 : Int32))]) [1, 2, 3, 0] rfl ?_
  refine cf_X5_winningTake_l2 hA X  hO x1 x2 h r _ (1 : Int32) hf (fun w5 hf => ?_)
  refine J_bipush X (-6 : Int32) dX5_winningTake_46 (by decide) ?_
  cases hf
  exact J_iret X dX5_winningTake_48
theorem hd_X5_tacks : yX5_tacks.cls ≠ "java/lang/invoke/MethodHandle" ∧ yX5_tacks.cls ≠ "java/lang/invoke/VarHandle" ∧ (parseMethodDescriptor yX5_tacks.desc).map (fun d => d.parameters.length) = some 3 := by decide +kernel
set_option maxHeartbeats 4000000 in
set_option maxRecDepth 100000 in
theorem cf_X5_tacks_l36 {R : Type} (hA : ∀ h : Hp, va_D A (emb h)) (X : Cx p s m args meth c RX5 cX5_tacks 5 (some .int) o)  (hO : isX5 o emb) (s1 : Int32) (s2 : Int32) (s3 : Int32) {kx : Int32 → Hp → Option R} (t : R) : ∀ (n : Nat) (s4 : Int32) (h : Hp), f_X5_tacks_l36 s1 s2 s3 kx n s4 h = some t → (∀ (s4 : Int32) (h : Hp), kx s4 h = some t → J p l e (rmf 2 44) s m args below meth c 0 0 Z o emb A H0 5 64 [(0, .ref (o.1 0)), (1, .int s1), (3, .int s3)] [] h) → J p l e (rmf 2 44) s m args below meth c 0 0 Z o emb A H0 5 36 [(0, .ref (o.1 0)), (1, .int s1), (2, .int s2), (3, .int s3), (4, .int s4)] [] h := by
  intro n
  induction n with
  | zero =>
    intro s4 h hf hk
    cases hf
  | succ n ih =>
    intro s4 h hf hk
    rw [f_X5_tacks_l36] at hf
    refine J_iload X 4 dX5_tacks_36 rfl ?_
    refine J_iload_n X 1 dX5_tacks_38 rfl rfl ?_
    refine J_icmp_gt (tgt := 64) X dX5_tacks_39 (by decide) (fun c39 => ?_) (fun c39 => ?_)
    · rw [if_pos c39] at hf
      exact J_sub [0, 1, 3] rfl (hk s4 h hf)
    · rw [if_neg c39] at hf
      refine J_aload_n X 0 dX5_tacks_42 rfl rfl ?_
      refine J_get X hO.1 inX5 rfl 11 (Nat.le_of_ble_eq_true rfl) wd_179 rfl (v := .ref (o.1 39)) rfl dX5_tacks_43 ?_
      refine J_iload X 4 dX5_tacks_46 rfl ?_
      refine J_aload_n X 0 dX5_tacks_48 rfl rfl ?_
      refine J_iload X 4 dX5_tacks_49 rfl ?_
      refine J_iload_n X 2 dX5_tacks_51 rfl rfl ?_
      obtain ⟨v4, qv4, hf⟩ := ob hf
      refine J_callV X (rest := [.int s4, .ref (o.1 39)]) (rs := [.int v4, .int s4, .ref (o.1 39)]) (c_X5_winningTake l o emb A hA hO s4 s2 h v4 qv4) hO.1 rfl rfl wd_535 wd_537 wd_11 wd_34 wd_538 hd_X5_winningTake ⟨Nat.le_of_ble_eq_true rfl, Nat.le_of_ble_eq_true rfl⟩ ⟨Nat.zero_le _, Nat.zero_le _⟩ (Nat.le_of_ble_eq_true rfl) dX5_tacks_52 rfl rfl ?_
      obtain ⟨h5, qh5, hf⟩ := ob hf
      refine J_callS X (rest := []) (rs := []) (c_X5_put l o emb A hA 39 100 hO.2.2.2.2.2.2.2.2.2.2.2.2.1 s4 v4 h h5 qh5) wd_427 wd_225 wd_34 wd_226 hd_X5_put ⟨Nat.le_of_ble_eq_true rfl, Nat.le_of_ble_eq_true rfl⟩ ⟨Nat.zero_le _, Nat.zero_le _⟩ (Nat.le_of_ble_eq_true rfl) dX5_tacks_55 rfl rfl ?_
      obtain ⟨v6, qv6, hf⟩ := ob hf
      refine J_iinc X 4 [(4, .int v6), (0, .ref (o.1 0)), (1, .int s1), (2, .int s2), (3, .int s3)] dX5_tacks_58 rfl (Option.some.inj qv6) (Nat.le_of_ble_eq_true rfl) rfl ?_
      refine J_goto (tgt := 36) X dX5_tacks_61 (by decide) ?_
      exact J_sub [1, 2, 3, 4, 0] rfl (ih v6 h5 hf hk)
set_option maxHeartbeats 4000000 in
set_option maxRecDepth 100000 in
theorem c_X5_tacks (l : Launch) (o : Om) (emb : Hp → va_W) (A : Nat → Prop) (hA : ∀ h : Hp, va_D A (emb h)) (hO : isX5 o emb) (x1 : Int32) (x2 : Int32) (x3 : Int32) (h : Hp) (r : Int32) (h' : Hp) (hf : f_X5_tacks x1 x2 x3 h = some (r, h')) : Ct l o emb A yX5_tacks cX5_tacks 5 (some .int) 2 44 [.ref (o.1 0), .int x1, .int x2, .int x3] h (some (.int r)) h' := by
  refine Ct.of RX5 rfl (by decide +kernel) hA (Nat.le_of_ble_eq_true rfl) (fun p e s m args below meth c X => ?_)
  refine J_sub (lo' := [(0, .ref (o.1 0)), (1, .int x1), (2, .int x2), (3, .int x3)]) [0, 1, 2, 3] rfl ?_
  rw [f_X5_tacks] at hf
  refine J_iload_n X 1 dX5_tacks_0 rfl rfl ?_
  refine J_const X (0 : Int32) dX5_tacks_1 (by decide) ?_
  refine J_bipush X (99 : Int32) dX5_tacks_2 (by decide) ?_
  obtain ⟨v1, qv1, hf⟩ := ob hf
  refine J_callS X (rest := []) (rs := [.int v1]) (c_X5_within l o emb A hA x1 (0 : Int32) (99 : Int32) h v1 qv1) wd_216 wd_217 wd_34 wd_218 hd_X5_within ⟨Nat.le_of_ble_eq_true rfl, Nat.le_of_ble_eq_true rfl⟩ ⟨Nat.zero_le _, Nat.zero_le _⟩ (Nat.le_of_ble_eq_true rfl) dX5_tacks_4 rfl rfl ?_
  refine J_if_eq (tgt := 30) X dX5_tacks_7 (by decide) (fun c7 => ?_) (fun c7 => ?_)
  · rw [if_pos c7] at hf
    refine J_bipush X (-2 : Int32) dX5_tacks_30 (by decide) ?_
    cases hf
    exact J_iret X dX5_tacks_32
  · rw [if_neg c7] at hf
    refine J_iload_n X 2 dX5_tacks_10 rfl rfl ?_
    refine J_const X (1 : Int32) dX5_tacks_11 (by decide) ?_
    refine J_sipush X (511 : Int32) dX5_tacks_12 (by decide) ?_
    obtain ⟨v2, qv2, hf⟩ := ob hf
    refine J_callS X (rest := []) (rs := [.int v2]) (c_X5_within l o emb A hA x2 (1 : Int32) (511 : Int32) h v2 qv2) wd_216 wd_217 wd_34 wd_218 hd_X5_within ⟨Nat.le_of_ble_eq_true rfl, Nat.le_of_ble_eq_true rfl⟩ ⟨Nat.zero_le _, Nat.zero_le _⟩ (Nat.le_of_ble_eq_true rfl) dX5_tacks_15 rfl rfl ?_
    refine J_if_eq (tgt := 30) X dX5_tacks_18 (by decide) (fun c18 => ?_) (fun c18 => ?_)
    · rw [if_pos c18] at hf
      refine J_bipush X (-2 : Int32) dX5_tacks_30 (by decide) ?_
      cases hf
      exact J_iret X dX5_tacks_32
    · rw [if_neg c18] at hf
      refine J_iload_n X 3 dX5_tacks_21 rfl rfl ?_
      refine J_const X (0 : Int32) dX5_tacks_22 (by decide) ?_
      refine J_const X (1 : Int32) dX5_tacks_23 (by decide) ?_
      obtain ⟨v3, qv3, hf⟩ := ob hf
      refine J_callS X (rest := []) (rs := [.int v3]) (c_X5_within l o emb A hA x3 (0 : Int32) (1 : Int32) h v3 qv3) wd_216 wd_217 wd_34 wd_218 hd_X5_within ⟨Nat.le_of_ble_eq_true rfl, Nat.le_of_ble_eq_true rfl⟩ ⟨Nat.zero_le _, Nat.zero_le _⟩ (Nat.le_of_ble_eq_true rfl) dX5_tacks_24 rfl rfl ?_
      refine J_if_ne (tgt := 33) X dX5_tacks_27 (by decide) (fun c27 => ?_) (fun c27 => ?_)
      · rw [if_neg c27] at hf
        refine J_const X (0 : Int32) dX5_tacks_33 (by decide) ?_
        refine J_istore X [(4, .int (0 : Int32)), (0, .ref (o.1 0)), (1, .int x1), (2, .int x2), (3, .int x3)] dX5_tacks_34 (Nat.le_of_ble_eq_true rfl) rfl ?_
        refine J_sub (lo' := [(0, .ref (o.1 0)), (1, .int x1), (2, .int x2), (3, .int x3), (4, .int (0 : Int32))]) [1, 2, 3, 4, 0] rfl ?_
        refine cf_X5_tacks_l36 hA X  hO x1 x2 x3 _ _ (0 : Int32) h hf (fun w7 h8 hf => ?_)
        refine J_aload_n X 0 dX5_tacks_64 rfl rfl ?_
        refine J_get X hO.1 inX5 rfl 11 (Nat.le_of_ble_eq_true rfl) wd_179 rfl (v := .ref (o.1 39)) rfl dX5_tacks_65 ?_
        refine J_iload_n X 1 dX5_tacks_68 rfl rfl ?_
        obtain ⟨v9, qv9, hf⟩ := ob hf
        refine J_callS X (rest := []) (rs := [.int v9]) (c_X5_at l o emb A hA 39 100 hO.2.2.2.2.2.2.2.2.2.2.2.2.1 x1 h8 v9 qv9) wd_432 wd_255 wd_34 wd_256 hd_X5_at ⟨Nat.le_of_ble_eq_true rfl, Nat.le_of_ble_eq_true rfl⟩ ⟨Nat.zero_le _, Nat.zero_le _⟩ (Nat.le_of_ble_eq_true rfl) dX5_tacks_69 rfl rfl ?_
        refine J_istore X [(4, .int v9), (0, .ref (o.1 0)), (1, .int x1), (3, .int x3)] dX5_tacks_72 (Nat.le_of_ble_eq_true rfl) rfl ?_
        refine J_iload_n X 3 dX5_tacks_74 rfl rfl ?_
        refine J_if_ne (tgt := 91) X dX5_tacks_75 (by decide) (fun c75 => ?_) (fun c75 => ?_)
        · rw [if_neg c75] at hf
          refine J_iload X 0 dX5_tacks_91 rfl ?_
          cases hf
          exact J_iret X dX5_tacks_93
        · rw [if_pos c75] at hf
          refine J_iload X 0 dX5_tacks_78 rfl ?_
          refine J_bipush X (-6 : Int32) dX5_tacks_80 (by decide) ?_
          refine J_icmp_ne (tgt := 89) X dX5_tacks_82 (by decide) (fun c82 => ?_) (fun c82 => ?_)
          · rw [if_neg c82] at hf
            refine J_const X (1 : Int32) dX5_tacks_89 (by decide) ?_
            cases hf
            exact J_iret X dX5_tacks_90
          · rw [if_pos c82] at hf
            refine J_const X (0 : Int32) dX5_tacks_85 (by decide) ?_
            refine J_goto (tgt := 90) X dX5_tacks_86 (by decide) ?_
            cases hf
            exact J_iret X dX5_tacks_90
      · rw [if_pos c27] at hf
        refine J_bipush X (-2 : Int32) dX5_tacks_30 (by decide) ?_
        cases hf
        exact J_iret X dX5_tacks_32
theorem hd_X5_fillChances : yX5_fillChances.cls ≠ "java/lang/invoke/MethodHandle" ∧ yX5_fillChances.cls ≠ "java/lang/invoke/VarHandle" ∧ (parseMethodDescriptor yX5_fillChances.desc).map (fun d => d.parameters.length) = some 2 := by decide +kernel
set_option maxHeartbeats 4000000 in
set_option maxRecDepth 100000 in
theorem cf_X5_fillChances_l39 {R : Type} (hA : ∀ h : Hp, va_D A (emb h)) (X : Cx p s m args meth c RX5 cX5_fillChances 7 none o)  (hO : isX5 o emb) (s1 : Int32) (s2 : Int32) (s3 : Int32) {kx : Int32 → Hp → Option R} (t : R) : ∀ (n : Nat) (s4 : Int32) (h : Hp), f_X5_fillChances_l39 s1 s2 s3 kx n s4 h = some t → (∀ (s4 : Int32) (h : Hp), kx s4 h = some t → J p l e (rmf 1 24) s m args below meth c 0 0 Z o emb A H0 7 96 [(0, .ref (o.1 0)), (1, .int s1), (2, .int s2), (3, .int s3)] [] h) → J p l e (rmf 1 24) s m args below meth c 0 0 Z o emb A H0 7 39 [(0, .ref (o.1 0)), (1, .int s1), (2, .int s2), (3, .int s3), (4, .int s4)] [] h := by
  intro n
  induction n with
  | zero =>
    intro s4 h hf hk
    cases hf
  | succ n ih =>
    intro s4 h hf hk
    rw [f_X5_fillChances_l39] at hf
    refine J_iload X 4 dX5_fillChances_39 rfl ?_
    refine J_if_lt (tgt := 96) X dX5_fillChances_41 (by decide) (fun c41 => ?_) (fun c41 => ?_)
    · rw [if_pos c41] at hf
      exact J_sub [0, 1, 2, 3] rfl (hk s4 h hf)
    · rw [if_neg c41] at hf
      refine J_iload X 4 dX5_fillChances_44 rfl ?_
      obtain ⟨t6, qt6, hf⟩ := ob hf
      have yk5 : J p l e (rmf 1 24) s m args below meth c 0 0 Z o emb A H0 7 65 [(0, .ref (o.1 0)), (1, .int s1), (2, .int s2), (3, .int s3), (4, .int s4)] [.long t6] h := by
        refine J_lstore X [(5, .long t6), (0, .ref (o.1 0)), (1, .int s1), (2, .int s2), (3, .int s3), (4, .int s4)] dX5_fillChances_65 (Nat.le_of_ble_eq_true rfl) rfl ?_
        refine J_aload_n X 1 dX5_fillChances_67 rfl rfl ?_
        refine J_get X hO.1 inX5 rfl 12 (Nat.le_of_ble_eq_true rfl) wd_180 rfl (v := .ref (o.1 40)) rfl dX5_fillChances_68 ?_
        refine J_iload X 5 dX5_fillChances_71 rfl ?_
        refine J_aload_n X 1 dX5_fillChances_73 rfl rfl ?_
        refine J_get X hO.1 inX5 rfl 12 (Nat.le_of_ble_eq_true rfl) wd_180 rfl (v := .ref (o.1 40)) rfl dX5_fillChances_74 ?_
        refine J_iload X 5 dX5_fillChances_77 rfl ?_
        obtain ⟨v7, qv7, hf⟩ := ob hf
        refine J_lald X hO.2.2.2.2.2.2.2.2.2.2.2.2.2 (lald_s qv7).1 dX5_fillChances_79 ?_
        refine J_topl v7 (lald_s qv7).2 ?_
        refine J_bipush X (10 : Int32) dX5_fillChances_80 (by decide) ?_
        refine J_iload_n X 3 dX5_fillChances_82 rfl rfl ?_
        refine J_isub X dX5_fillChances_83 ?_
        refine J_i2l X dX5_fillChances_84 ?_
        refine J_lmul X dX5_fillChances_85 ?_
        refine J_lload X 0 dX5_fillChances_86 rfl ?_
        refine J_ladd X dX5_fillChances_88 ?_
        obtain ⟨h8, qh8, hf⟩ := ob hf
        refine J_last X hO.2.2.2.2.2.2.2.2.2.2.2.2.2 (last_s qh8).1 dX5_fillChances_89 ?_
        refine J_hp h8 (last_s qh8).2 ?_
        obtain ⟨v9, qv9, hf⟩ := ob hf
        refine J_iinc X 5 [(4, .int v9), (5, .long t6), (0, .ref (o.1 0)), (1, .int s1), (2, .int s2), (3, .int s3)] dX5_fillChances_90 rfl (Option.some.inj qv9) (Nat.le_of_ble_eq_true rfl) rfl ?_
        refine J_goto (tgt := 39) X dX5_fillChances_93 (by decide) ?_
        exact J_sub [2, 3, 4, 5, 0] rfl (ih v9 h8 hf hk)
      clear hf
      have hf := qt6
      clear qt6
      refine J_if_le (tgt := 64) X dX5_fillChances_46 (by decide) (fun c46 => ?_) (fun c46 => ?_)
      · rw [if_pos c46] at hf
        refine J_lconst X (0 : Int64) dX5_fillChances_64 (by decide) ?_
        cases hf
        exact J_sub [0, 1, 2, 3, 4] rfl yk5
      · rw [if_neg c46] at hf
        refine J_aload_n X 0 dX5_fillChances_49 rfl rfl ?_
        refine J_get X hO.1 inX5 rfl 12 (Nat.le_of_ble_eq_true rfl) wd_180 rfl (v := .ref (o.1 40)) rfl dX5_fillChances_50 ?_
        refine J_iload X 4 dX5_fillChances_53 rfl ?_
        refine J_const X (1 : Int32) dX5_fillChances_55 (by decide) ?_
        refine J_isub X dX5_fillChances_56 ?_
        obtain ⟨v10, qv10, hf⟩ := ob hf
        refine J_lald X hO.2.2.2.2.2.2.2.2.2.2.2.2.2 (lald_s qv10).1 dX5_fillChances_57 ?_
        refine J_topl v10 (lald_s qv10).2 ?_
        refine J_iload_n X 2 dX5_fillChances_58 rfl rfl ?_
        refine J_i2l X dX5_fillChances_59 ?_
        refine J_lmul X dX5_fillChances_60 ?_
        refine J_goto (tgt := 65) X dX5_fillChances_61 (by decide) ?_
        cases hf
        exact J_sub [0, 1, 2, 3, 4] rfl yk5
set_option maxHeartbeats 4000000 in
set_option maxRecDepth 100000 in
theorem cf_X5_fillChances_l25 {R : Type} (hA : ∀ h : Hp, va_D A (emb h)) (X : Cx p s m args meth c RX5 cX5_fillChances 7 none o)  (hO : isX5 o emb) (s1 : Int32) (s2 : Int32) {kx : Int32 → Hp → Option R} (t : R) : ∀ (n : Nat) (s3 : Int32) (h : Hp), f_X5_fillChances_l25 s1 s2 kx n s3 h = some t → (∀ (s3 : Int32) (h : Hp), kx s3 h = some t → J p l e (rmf 1 24) s m args below meth c 0 0 Z o emb A H0 7 102 [] [] h) → J p l e (rmf 1 24) s m args below meth c 0 0 Z o emb A H0 7 25 [(0, .ref (o.1 0)), (1, .int s1), (2, .int s2), (3, .int s3)] [] h := by
  intro n
  induction n with
  | zero =>
    intro s3 h hf hk
    cases hf
  | succ n ih =>
    intro s3 h hf hk
    rw [f_X5_fillChances_l25] at hf
    refine J_iload_n X 3 dX5_fillChances_25 rfl rfl ?_
    refine J_iload_n X 1 dX5_fillChances_26 rfl rfl ?_
    refine J_icmp_gt (tgt := 102) X dX5_fillChances_27 (by decide) (fun c27 => ?_) (fun c27 => ?_)
    · rw [if_pos c27] at hf
      exact J_sub [] rfl (hk s3 h hf)
    · rw [if_neg c27] at hf
      refine J_aload_n X 0 dX5_fillChances_30 rfl rfl ?_
      refine J_get X hO.1 inX5 rfl 12 (Nat.le_of_ble_eq_true rfl) wd_180 rfl (v := .ref (o.1 40)) rfl dX5_fillChances_31 ?_
      refine J_alenL X hO.2.2.2.2.2.2.2.2.2.2.2.2.2 (17 : Int32) (by decide) dX5_fillChances_34 ?_
      refine J_const X (1 : Int32) dX5_fillChances_35 (by decide) ?_
      refine J_isub X dX5_fillChances_36 ?_
      obtain ⟨v4, qv4, hf⟩ := ob hf
      refine J_topi v4 (Option.some.inj qv4) ?_
      refine J_istore X [(4, .int v4), (0, .ref (o.1 0)), (1, .int s1), (2, .int s2), (3, .int s3)] dX5_fillChances_37 (Nat.le_of_ble_eq_true rfl) rfl ?_
      refine J_sub (lo' := [(0, .ref (o.1 0)), (1, .int s1), (2, .int s2), (3, .int s3), (4, .int v4)]) [1, 2, 3, 4, 0] rfl ?_
      refine cf_X5_fillChances_l39 hA X  hO s1 s2 s3 _ _ v4 h hf (fun w11 h12 hf => ?_)
      obtain ⟨v13, qv13, hf⟩ := ob hf
      refine J_iinc X 3 [(3, .int v13), (0, .ref (o.1 0)), (1, .int s1), (2, .int s2)] dX5_fillChances_96 rfl (Option.some.inj qv13) (Nat.le_of_ble_eq_true rfl) rfl ?_
      refine J_goto (tgt := 25) X dX5_fillChances_99 (by decide) ?_
      exact J_sub [1, 2, 3, 0] rfl (ih v13 h12 hf hk)
set_option maxHeartbeats 4000000 in
set_option maxRecDepth 100000 in
theorem c_X5_fillChances (l : Launch) (o : Om) (emb : Hp → va_W) (A : Nat → Prop) (hA : ∀ h : Hp, va_D A (emb h)) (hO : isX5 o emb) (x1 : Int32) (x2 : Int32) (h : Hp)  (h' : Hp) (hf : f_X5_fillChances x1 x2 h = some h') : Ct l o emb A yX5_fillChances cX5_fillChances 7 none 1 24 [.ref (o.1 0), .int x1, .int x2] h none h' := by
  refine Ct.of RX5 rfl (by decide +kernel) hA (Nat.le_of_ble_eq_true rfl) (fun p e s m args below meth c X => ?_)
  refine J_sub (lo' := [(0, .ref (o.1 0)), (1, .int x1), (2, .int x2)]) [0, 1, 2] rfl ?_
  rw [f_X5_fillChances] at hf
  refine J_aload_n X 0 dX5_fillChances_0 rfl rfl ?_
  refine J_get X hO.1 inX5 rfl 12 (Nat.le_of_ble_eq_true rfl) wd_180 rfl (v := .ref (o.1 40)) rfl dX5_fillChances_1 ?_
  refine J_lconst X (0 : Int64) dX5_fillChances_4 (by decide) ?_
  obtain ⟨h1, qh1, hf⟩ := ob hf
  refine J_callS X (rest := []) (rs := []) (c_J7_fill_d0a16 l o emb A hA 40 17 hO.2.2.2.2.2.2.2.2.2.2.2.2.2 (0 : Int64) h h1 qh1) wd_547 wd_548 wd_36 wd_549 hd_J7_fill_d0a16 ⟨Nat.le_of_ble_eq_true rfl, Nat.le_of_ble_eq_true rfl⟩ ⟨Nat.zero_le _, Nat.zero_le _⟩ (Nat.le_of_ble_eq_true rfl) dX5_fillChances_5 rfl rfl ?_
  refine J_aload_n X 0 dX5_fillChances_8 rfl rfl ?_
  refine J_get X hO.1 inX5 rfl 12 (Nat.le_of_ble_eq_true rfl) wd_180 rfl (v := .ref (o.1 40)) rfl dX5_fillChances_9 ?_
  refine J_alenL X hO.2.2.2.2.2.2.2.2.2.2.2.2.2 (17 : Int32) (by decide) dX5_fillChances_12 ?_
  obtain ⟨t3, qt3, hf⟩ := ob hf
  have yk2 : J p l e (rmf 1 24) s m args below meth c 0 0 (MQ below (WdQ o emb A none h') args s 0 0 A) o emb A s.heap 7 23 [(0, .ref (o.1 0)), (1, .int x1), (2, .int x2)] [] t3 := by
    refine J_const X (1 : Int32) dX5_fillChances_23 (by decide) ?_
    refine J_istore_n X [(3, .int (1 : Int32)), (0, .ref (o.1 0)), (1, .int x1), (2, .int x2)] dX5_fillChances_24 rfl (Nat.le_of_ble_eq_true rfl) rfl ?_
    refine J_sub (lo' := [(0, .ref (o.1 0)), (1, .int x1), (2, .int x2), (3, .int (1 : Int32))]) [1, 2, 3, 0] rfl ?_
    refine cf_X5_fillChances_l25 hA X  hO x1 x2 _ _ (1 : Int32) t3 hf (fun w14 h15 hf => ?_)
    cases hf
    exact J_vret X dX5_fillChances_102
  clear hf
  have hf := qt3
  clear qt3
  refine J_if_le (tgt := 23) X dX5_fillChances_13 (by decide) (fun c13 => ?_) (fun c13 => ?_)
  · rw [if_pos c13] at hf
    cases hf
    exact J_sub [0, 1, 2] rfl yk2
  · rw [if_neg c13] at hf
    refine J_aload_n X 0 dX5_fillChances_16 rfl rfl ?_
    refine J_get X hO.1 inX5 rfl 12 (Nat.le_of_ble_eq_true rfl) wd_180 rfl (v := .ref (o.1 40)) rfl dX5_fillChances_17 ?_
    refine J_const X (0 : Int32) dX5_fillChances_20 (by decide) ?_
    refine J_lconst X (1 : Int64) dX5_fillChances_21 (by decide) ?_
    obtain ⟨h16, qh16, hf⟩ := ob hf
    refine J_last X hO.2.2.2.2.2.2.2.2.2.2.2.2.2 (last_s qh16).1 dX5_fillChances_22 ?_
    refine J_hp h16 (last_s qh16).2 ?_
    cases hf
    exact J_sub [0, 1, 2] rfl yk2
theorem hd_X5_wet : yX5_wet.cls ≠ "java/lang/invoke/MethodHandle" ∧ yX5_wet.cls ≠ "java/lang/invoke/VarHandle" ∧ (parseMethodDescriptor yX5_wet.desc).map (fun d => d.parameters.length) = some 5 := by decide +kernel
set_option maxHeartbeats 4000000 in
set_option maxRecDepth 100000 in
theorem cf_X5_wet_l92 {R : Type} (hA : ∀ h : Hp, va_D A (emb h)) (X : Cx p s m args meth c RX5 cX5_wet 9 (some .long) o)  (hO : isX5 o emb) (s1 : Int32) (s3 : Int32) (s5 : Int32) (h : Hp) {kx : Int64 → Int32 → Option R} (t : R) : ∀ (n : Nat) (s6 : Int64) (s8 : Int32), f_X5_wet_l92 s1 s3 s5 h kx n s6 s8 = some t → (∀ (s6 : Int64) (s8 : Int32), kx s6 s8 = some t → J p l e (rmf 2 58) s m args below meth c 0 0 Z o emb A H0 9 134 [(1, .int s1), (5, .int s5), (6, .long s6)] [] h) → J p l e (rmf 2 58) s m args below meth c 0 0 Z o emb A H0 9 92 [(0, .ref (o.1 0)), (1, .int s1), (3, .int s3), (5, .int s5), (6, .long s6), (8, .int s8)] [] h := by
  intro n
  induction n with
  | zero =>
    intro s6 s8 hf hk
    cases hf
  | succ n ih =>
    intro s6 s8 hf hk
    rw [f_X5_wet_l92] at hf
    refine J_iload X 5 dX5_wet_92 rfl ?_
    refine J_iload_n X 1 dX5_wet_94 rfl rfl ?_
    refine J_icmp_gt (tgt := 134) X dX5_wet_95 (by decide) (fun c95 => ?_) (fun c95 => ?_)
    · rw [if_pos c95] at hf
      exact J_sub [1, 3, 4] rfl (hk s6 s8 hf)
    · rw [if_neg c95] at hf
      refine J_iload X 5 dX5_wet_98 rfl ?_
      refine J_aload_n X 0 dX5_wet_100 rfl rfl ?_
      refine J_get X hO.1 inX5 rfl 12 (Nat.le_of_ble_eq_true rfl) wd_180 rfl (v := .ref (o.1 40)) rfl dX5_wet_101 ?_
      refine J_alenL X hO.2.2.2.2.2.2.2.2.2.2.2.2.2 (17 : Int32) (by decide) dX5_wet_104 ?_
      refine J_icmp_ge (tgt := 134) X dX5_wet_105 (by decide) (fun c105 => ?_) (fun c105 => ?_)
      · rw [if_pos c105] at hf
        exact J_sub [1, 3, 4] rfl (hk s6 s8 hf)
      · rw [if_neg c105] at hf
        refine J_iload_n X 1 dX5_wet_108 rfl rfl ?_
        refine J_iload X 5 dX5_wet_109 rfl ?_
        refine J_iadd X dX5_wet_111 ?_
        refine J_iload_n X 2 dX5_wet_112 rfl rfl ?_
        refine J_icmp_lt (tgt := 128) X dX5_wet_113 (by decide) (fun c113 => ?_) (fun c113 => ?_)
        · rw [if_pos c113] at hf
          obtain ⟨v7, qv7, hf⟩ := ob hf
          refine J_iinc X 5 [(8, .int v7), (0, .ref (o.1 0)), (1, .int s1), (3, .int s3), (5, .int s5), (6, .long s6)] dX5_wet_128 rfl (Option.some.inj qv7) (Nat.le_of_ble_eq_true rfl) rfl ?_
          refine J_goto (tgt := 92) X dX5_wet_131 (by decide) ?_
          exact J_sub [1, 2, 3, 4, 5, 0] rfl (ih s6 v7 hf hk)
        · rw [if_neg c113] at hf
          refine J_lload X 4 dX5_wet_116 rfl ?_
          refine J_aload_n X 0 dX5_wet_118 rfl rfl ?_
          refine J_get X hO.1 inX5 rfl 12 (Nat.le_of_ble_eq_true rfl) wd_180 rfl (v := .ref (o.1 40)) rfl dX5_wet_119 ?_
          refine J_iload X 5 dX5_wet_122 rfl ?_
          obtain ⟨v8, qv8, hf⟩ := ob hf
          refine J_lald X hO.2.2.2.2.2.2.2.2.2.2.2.2.2 (lald_s qv8).1 dX5_wet_124 ?_
          refine J_topl v8 (lald_s qv8).2 ?_
          refine J_ladd X dX5_wet_125 ?_
          obtain ⟨v9, qv9, hf⟩ := ob hf
          refine J_topl v9 (Option.some.inj qv9) ?_
          refine J_lstore X [(6, .long v9), (0, .ref (o.1 0)), (1, .int s1), (3, .int s3), (5, .int s5), (8, .int s8)] dX5_wet_126 (Nat.le_of_ble_eq_true rfl) rfl ?_
          obtain ⟨v10, qv10, hf⟩ := ob hf
          refine J_iinc X 5 [(8, .int v10), (6, .long v9), (0, .ref (o.1 0)), (1, .int s1), (3, .int s3), (5, .int s5)] dX5_wet_128 rfl (Option.some.inj qv10) (Nat.le_of_ble_eq_true rfl) rfl ?_
          refine J_goto (tgt := 92) X dX5_wet_131 (by decide) ?_
          exact J_sub [2, 3, 4, 5, 1, 0] rfl (ih v9 v10 hf hk)
set_option maxHeartbeats 4000000 in
set_option maxRecDepth 100000 in
theorem c_X5_wet (l : Launch) (o : Om) (emb : Hp → va_W) (A : Nat → Prop) (hA : ∀ h : Hp, va_D A (emb h)) (hO : isX5 o emb) (x1 : Int32) (x2 : Int32) (x3 : Int32) (x4 : Int32) (x5 : Int32) (h : Hp) (r : Int64) (h' : Hp) (hf : f_X5_wet x1 x2 x3 x4 x5 h = some (r, h')) : Ct l o emb A yX5_wet cX5_wet 9 (some .long) 2 58 [.ref (o.1 0), .int x1, .int x2, .int x3, .int x4, .int x5] h (some (.long r)) h' := by
  refine Ct.of RX5 rfl (by decide +kernel) hA (Nat.le_of_ble_eq_true rfl) (fun p e s m args below meth c X => ?_)
  refine J_sub (lo' := [(0, .ref (o.1 0)), (1, .int x1), (2, .int x2), (3, .int x3), (4, .int x4), (5, .int x5)]) [0, 1, 2, 3, 4, 5] rfl ?_
  rw [f_X5_wet] at hf
  refine J_iload_n X 1 dX5_wet_0 rfl rfl ?_
  refine J_const X (0 : Int32) dX5_wet_1 (by decide) ?_
  refine J_bipush X (16 : Int32) dX5_wet_2 (by decide) ?_
  obtain ⟨v1, qv1, hf⟩ := ob hf
  refine J_callS X (rest := []) (rs := [.int v1]) (c_X5_within l o emb A hA x1 (0 : Int32) (16 : Int32) h v1 qv1) wd_216 wd_217 wd_34 wd_218 hd_X5_within ⟨Nat.le_of_ble_eq_true rfl, Nat.le_of_ble_eq_true rfl⟩ ⟨Nat.zero_le _, Nat.zero_le _⟩ (Nat.le_of_ble_eq_true rfl) dX5_wet_4 rfl rfl ?_
  refine J_if_eq (tgt := 30) X dX5_wet_7 (by decide) (fun c7 => ?_) (fun c7 => ?_)
  · rw [if_pos c7] at hf
    refine J_ldc2 X wd_482 dX5_wet_30 ?_
    cases hf
    exact J_lret X dX5_wet_33
  · rw [if_neg c7] at hf
    refine J_iload_n X 2 dX5_wet_10 rfl rfl ?_
    refine J_const X (0 : Int32) dX5_wet_11 (by decide) ?_
    refine J_bipush X (10 : Int32) dX5_wet_12 (by decide) ?_
    obtain ⟨v2, qv2, hf⟩ := ob hf
    refine J_callS X (rest := []) (rs := [.int v2]) (c_X5_within l o emb A hA x2 (0 : Int32) (10 : Int32) h v2 qv2) wd_216 wd_217 wd_34 wd_218 hd_X5_within ⟨Nat.le_of_ble_eq_true rfl, Nat.le_of_ble_eq_true rfl⟩ ⟨Nat.zero_le _, Nat.zero_le _⟩ (Nat.le_of_ble_eq_true rfl) dX5_wet_14 rfl rfl ?_
    refine J_if_eq (tgt := 30) X dX5_wet_17 (by decide) (fun c17 => ?_) (fun c17 => ?_)
    · rw [if_pos c17] at hf
      refine J_ldc2 X wd_482 dX5_wet_30 ?_
      cases hf
      exact J_lret X dX5_wet_33
    · rw [if_neg c17] at hf
      refine J_iload_n X 3 dX5_wet_20 rfl rfl ?_
      refine J_const X (0 : Int32) dX5_wet_21 (by decide) ?_
      refine J_bipush X (40 : Int32) dX5_wet_22 (by decide) ?_
      obtain ⟨v3, qv3, hf⟩ := ob hf
      refine J_callS X (rest := []) (rs := [.int v3]) (c_X5_within l o emb A hA x3 (0 : Int32) (40 : Int32) h v3 qv3) wd_216 wd_217 wd_34 wd_218 hd_X5_within ⟨Nat.le_of_ble_eq_true rfl, Nat.le_of_ble_eq_true rfl⟩ ⟨Nat.zero_le _, Nat.zero_le _⟩ (Nat.le_of_ble_eq_true rfl) dX5_wet_24 rfl rfl ?_
      refine J_if_ne (tgt := 34) X dX5_wet_27 (by decide) (fun c27 => ?_) (fun c27 => ?_)
      · rw [if_neg c27] at hf
        refine J_iload X 4 dX5_wet_34 rfl ?_
        refine J_const X (0 : Int32) dX5_wet_36 (by decide) ?_
        refine J_const X (1 : Int32) dX5_wet_37 (by decide) ?_
        obtain ⟨v4, qv4, hf⟩ := ob hf
        refine J_callS X (rest := []) (rs := [.int v4]) (c_X5_within l o emb A hA x4 (0 : Int32) (1 : Int32) h v4 qv4) wd_216 wd_217 wd_34 wd_218 hd_X5_within ⟨Nat.le_of_ble_eq_true rfl, Nat.le_of_ble_eq_true rfl⟩ ⟨Nat.zero_le _, Nat.zero_le _⟩ (Nat.le_of_ble_eq_true rfl) dX5_wet_38 rfl rfl ?_
        refine J_if_eq (tgt := 54) X dX5_wet_41 (by decide) (fun c41 => ?_) (fun c41 => ?_)
        · rw [if_pos c41] at hf
          refine J_ldc2 X wd_482 dX5_wet_54 ?_
          cases hf
          exact J_lret X dX5_wet_57
        · rw [if_neg c41] at hf
          refine J_iload X 5 dX5_wet_44 rfl ?_
          refine J_const X (0 : Int32) dX5_wet_46 (by decide) ?_
          refine J_const X (1 : Int32) dX5_wet_47 (by decide) ?_
          obtain ⟨v5, qv5, hf⟩ := ob hf
          refine J_callS X (rest := []) (rs := [.int v5]) (c_X5_within l o emb A hA x5 (0 : Int32) (1 : Int32) h v5 qv5) wd_216 wd_217 wd_34 wd_218 hd_X5_within ⟨Nat.le_of_ble_eq_true rfl, Nat.le_of_ble_eq_true rfl⟩ ⟨Nat.zero_le _, Nat.zero_le _⟩ (Nat.le_of_ble_eq_true rfl) dX5_wet_48 rfl rfl ?_
          refine J_if_ne (tgt := 58) X dX5_wet_51 (by decide) (fun c51 => ?_) (fun c51 => ?_)
          · rw [if_neg c51] at hf
            refine J_iload X 4 dX5_wet_58 rfl ?_
            refine J_const X (1 : Int32) dX5_wet_60 (by decide) ?_
            refine J_icmp_ne (tgt := 80) X dX5_wet_61 (by decide) (fun c61 => ?_) (fun c61 => ?_)
            · rw [if_neg c61] at hf
              refine J_aload_n X 0 dX5_wet_80 rfl rfl ?_
              refine J_iload_n X 1 dX5_wet_81 rfl rfl ?_
              refine J_iload_n X 2 dX5_wet_82 rfl rfl ?_
              obtain ⟨h6, qh6, hf⟩ := ob hf
              refine J_callV X (rest := []) (rs := []) (c_X5_fillChances l o emb A hA hO x1 x2 h h6 qh6) hO.1 rfl rfl wd_543 wd_545 wd_12 wd_34 wd_546 hd_X5_fillChances ⟨Nat.le_of_ble_eq_true rfl, Nat.le_of_ble_eq_true rfl⟩ ⟨Nat.zero_le _, Nat.zero_le _⟩ (Nat.le_of_ble_eq_true rfl) dX5_wet_83 rfl rfl ?_
              refine J_lconst X (0 : Int64) dX5_wet_86 (by decide) ?_
              refine J_lstore X [(6, .long (0 : Int64)), (0, .ref (o.1 0)), (1, .int x1), (2, .int x2), (3, .int x3), (4, .int x4), (5, .int x5)] dX5_wet_87 (Nat.le_of_ble_eq_true rfl) rfl ?_
              refine J_const X (0 : Int32) dX5_wet_89 (by decide) ?_
              refine J_istore X [(8, .int (0 : Int32)), (6, .long (0 : Int64)), (0, .ref (o.1 0)), (1, .int x1), (2, .int x2), (3, .int x3), (4, .int x4), (5, .int x5)] dX5_wet_90 (Nat.le_of_ble_eq_true rfl) rfl ?_
              refine J_sub (lo' := [(0, .ref (o.1 0)), (1, .int x1), (3, .int x3), (5, .int x5), (6, .long (0 : Int64)), (8, .int (0 : Int32))]) [2, 3, 5, 7, 1, 0] rfl ?_
              refine cf_X5_wet_l92 hA X  hO x1 x3 x5 h6 _ _ (0 : Int64) (0 : Int32) hf (fun w11 w12 hf => ?_)
              refine J_lload X 2 dX5_wet_134 rfl ?_
              refine J_iload_n X 0 dX5_wet_136 rfl rfl ?_
              obtain ⟨v13, qv13, hf⟩ := ob hf
              refine J_callS X (rest := [.long w11]) (rs := [.long v13, .long w11]) (c_X5_powerOfTen l o emb A hA x1 h6 v13 qv13) wd_463 wd_464 wd_34 wd_465 hd_X5_powerOfTen ⟨Nat.le_of_ble_eq_true rfl, Nat.le_of_ble_eq_true rfl⟩ ⟨Nat.zero_le _, Nat.zero_le _⟩ (Nat.le_of_ble_eq_true rfl) dX5_wet_137 rfl rfl ?_
              refine J_iload X 1 dX5_wet_140 rfl ?_
              obtain ⟨v14, qv14, hf⟩ := ob hf
              refine J_callS X (rest := []) (rs := [.long v14]) (c_X5_lowestTerms l o emb A hA w11 v13 x5 h6 v14 qv14) wd_487 wd_488 wd_34 wd_489 hd_X5_lowestTerms ⟨Nat.le_of_ble_eq_true rfl, Nat.le_of_ble_eq_true rfl⟩ ⟨Nat.zero_le _, Nat.zero_le _⟩ (Nat.le_of_ble_eq_true rfl) dX5_wet_142 rfl rfl ?_
              cases hf
              exact J_lret X dX5_wet_145
            · rw [if_pos c61] at hf
              refine J_iload_n X 1 dX5_wet_64 rfl rfl ?_
              refine J_bipush X (10 : Int32) dX5_wet_65 (by decide) ?_
              refine J_iload_n X 2 dX5_wet_67 rfl rfl ?_
              refine J_iadd X dX5_wet_68 ?_
              refine J_imul X dX5_wet_69 ?_
              refine J_i2l X dX5_wet_70 ?_
              refine J_ldc2 X wd_466 dX5_wet_71 ?_
              refine J_iload X 5 dX5_wet_74 rfl ?_
              obtain ⟨v15, qv15, hf⟩ := ob hf
              refine J_callS X (rest := []) (rs := [.long v15]) (c_X5_lowestTerms l o emb A hA ((x1 * ((10 : Int32) + x2))).toInt64 (10 : Int64) x5 h v15 qv15) wd_487 wd_488 wd_34 wd_489 hd_X5_lowestTerms ⟨Nat.le_of_ble_eq_true rfl, Nat.le_of_ble_eq_true rfl⟩ ⟨Nat.zero_le _, Nat.zero_le _⟩ (Nat.le_of_ble_eq_true rfl) dX5_wet_76 rfl rfl ?_
              cases hf
              exact J_lret X dX5_wet_79
          · rw [if_pos c51] at hf
            refine J_ldc2 X wd_482 dX5_wet_54 ?_
            cases hf
            exact J_lret X dX5_wet_57
      · rw [if_pos c27] at hf
        refine J_ldc2 X wd_482 dX5_wet_30 ?_
        cases hf
        exact J_lret X dX5_wet_33
theorem hd_X5_year : yX5_year.cls ≠ "java/lang/invoke/MethodHandle" ∧ yX5_year.cls ≠ "java/lang/invoke/VarHandle" ∧ (parseMethodDescriptor yX5_year.desc).map (fun d => d.parameters.length) = some 3 := by decide +kernel
set_option maxHeartbeats 4000000 in
set_option maxRecDepth 100000 in
theorem c_X5_year (l : Launch) (o : Om) (emb : Hp → va_W) (A : Nat → Prop) (hA : ∀ h : Hp, va_D A (emb h)) (hO : isX5 o emb) (x1 : Int32) (x2 : Int32) (x3 : Int32) (h : Hp) (r : Int32) (h' : Hp) (hf : f_X5_year x1 x2 x3 h = some (r, h')) : Ct l o emb A yX5_year cX5_year 4 (some .int) 5 119 [.ref (o.1 0), .int x1, .int x2, .int x3] h (some (.int r)) h' := by
  refine Ct.of RX5 rfl (by decide +kernel) hA (Nat.le_of_ble_eq_true rfl) (fun p e s m args below meth c X => ?_)
  refine J_sub (lo' := [(0, .ref (o.1 0)), (1, .int x1), (2, .int x2), (3, .int x3)]) [0, 1, 2, 3] rfl ?_
  rw [f_X5_year] at hf
  refine J_iload_n X 1 dX5_year_0 rfl rfl ?_
  refine J_const X (0 : Int32) dX5_year_1 (by decide) ?_
  refine J_sipush X (9999 : Int32) dX5_year_2 (by decide) ?_
  obtain ⟨v1, qv1, hf⟩ := ob hf
  refine J_callS X (rest := []) (rs := [.int v1]) (c_X5_within l o emb A hA x1 (0 : Int32) (9999 : Int32) h v1 qv1) wd_216 wd_217 wd_34 wd_218 hd_X5_within ⟨Nat.le_of_ble_eq_true rfl, Nat.le_of_ble_eq_true rfl⟩ ⟨Nat.zero_le _, Nat.zero_le _⟩ (Nat.le_of_ble_eq_true rfl) dX5_year_5 rfl rfl ?_
  refine J_if_eq (tgt := 30) X dX5_year_8 (by decide) (fun c8 => ?_) (fun c8 => ?_)
  · rw [if_pos c8] at hf
    refine J_bipush X (-2 : Int32) dX5_year_30 (by decide) ?_
    cases hf
    exact J_iret X dX5_year_32
  · rw [if_neg c8] at hf
    refine J_iload_n X 2 dX5_year_11 rfl rfl ?_
    refine J_const X (1 : Int32) dX5_year_12 (by decide) ?_
    refine J_bipush X (99 : Int32) dX5_year_13 (by decide) ?_
    obtain ⟨v2, qv2, hf⟩ := ob hf
    refine J_callS X (rest := []) (rs := [.int v2]) (c_X5_within l o emb A hA x2 (1 : Int32) (99 : Int32) h v2 qv2) wd_216 wd_217 wd_34 wd_218 hd_X5_within ⟨Nat.le_of_ble_eq_true rfl, Nat.le_of_ble_eq_true rfl⟩ ⟨Nat.zero_le _, Nat.zero_le _⟩ (Nat.le_of_ble_eq_true rfl) dX5_year_15 rfl rfl ?_
    refine J_if_eq (tgt := 30) X dX5_year_18 (by decide) (fun c18 => ?_) (fun c18 => ?_)
    · rw [if_pos c18] at hf
      refine J_bipush X (-2 : Int32) dX5_year_30 (by decide) ?_
      cases hf
      exact J_iret X dX5_year_32
    · rw [if_neg c18] at hf
      refine J_iload_n X 3 dX5_year_21 rfl rfl ?_
      refine J_const X (0 : Int32) dX5_year_22 (by decide) ?_
      refine J_const X (2 : Int32) dX5_year_23 (by decide) ?_
      obtain ⟨v3, qv3, hf⟩ := ob hf
      refine J_callS X (rest := []) (rs := [.int v3]) (c_X5_within l o emb A hA x3 (0 : Int32) (2 : Int32) h v3 qv3) wd_216 wd_217 wd_34 wd_218 hd_X5_within ⟨Nat.le_of_ble_eq_true rfl, Nat.le_of_ble_eq_true rfl⟩ ⟨Nat.zero_le _, Nat.zero_le _⟩ (Nat.le_of_ble_eq_true rfl) dX5_year_24 rfl rfl ?_
      refine J_if_ne (tgt := 33) X dX5_year_27 (by decide) (fun c27 => ?_) (fun c27 => ?_)
      · rw [if_neg c27] at hf
        refine J_aload_n X 0 dX5_year_33 rfl rfl ?_
        refine J_get X hO.1 inX5 rfl 3 (Nat.le_of_ble_eq_true rfl) wd_171 rfl (v := .ref (o.1 11)) rfl dX5_year_34 ?_
        refine J_iload_n X 1 dX5_year_37 rfl rfl ?_
        refine J_iload_n X 2 dX5_year_38 rfl rfl ?_
        refine J_aload_n X 0 dX5_year_39 rfl rfl ?_
        refine J_get X hO.1 inX5 rfl 0 (Nat.le_of_ble_eq_true rfl) wd_168 rfl (v := .ref (o.1 1)) rfl dX5_year_40 ?_
        obtain ⟨h4, qh4, hf⟩ := ob hf
        refine J_callV X (rest := []) (rs := []) (c_X4_followDraws l o emb A hA 1 hO.2.2.2.2.1 hO.2.1 x1 x2 h h4 qh4) hO.2.2.2.2.1.1 rfl rfl wd_554 wd_555 wd_556 wd_39 wd_557 hd_X4_followDraws ⟨Nat.le_of_ble_eq_true rfl, Nat.le_of_ble_eq_true rfl⟩ ⟨Nat.zero_le _, Nat.zero_le _⟩ (Nat.le_of_ble_eq_true rfl) dX5_year_43 rfl rfl ?_
        refine J_iload_n X 3 dX5_year_46 rfl rfl ?_
        by_cases c47_0 : x3 = (0 : Int32)
        · rw [if_pos c47_0] at hf
          refine J_topi (0 : Int32) c47_0 ?_
          refine J_lookup (tgt := 72) X dX5_year_47 (by decide) rfl (by decide) ?_
          refine J_aload_n X 0 dX5_year_72 rfl rfl ?_
          refine J_get X hO.1 inX5 rfl 3 (Nat.le_of_ble_eq_true rfl) wd_171 rfl (v := .ref (o.1 11)) rfl dX5_year_73 ?_
          refine J_getN X hO.2.2.2.2.1.1 inX4 rfl 0 (Nat.le_of_ble_eq_true rfl) nw_125 rfl (v := .ref (o.1 12)) rfl dX5_year_76 ?_
          obtain ⟨v8, qv8, hf⟩ := ob hf
          refine J_callV X (rest := []) (rs := [.int v8]) (c_X2_addWear l o emb A hA 12 hO.2.2.2.2.1.2 h4 v8 qv8) hO.2.2.2.2.1.2.1 rfl rfl wd_401 wd_402 wd_403 wd_35 wd_404 hd_X2_addWear ⟨Nat.le_of_ble_eq_true rfl, Nat.le_of_ble_eq_true rfl⟩ ⟨Nat.zero_le _, Nat.zero_le _⟩ (Nat.le_of_ble_eq_true rfl) dX5_year_79 rfl rfl ?_
          cases hf
          exact J_iret X dX5_year_82
        · rw [if_neg c47_0] at hf
          by_cases c47_1 : x3 = (1 : Int32)
          · rw [if_pos c47_1] at hf
            refine J_topi (1 : Int32) c47_1 ?_
            refine J_lookup (tgt := 83) X dX5_year_47 (by decide) rfl (by decide) ?_
            refine J_aload_n X 0 dX5_year_83 rfl rfl ?_
            refine J_get X hO.1 inX5 rfl 3 (Nat.le_of_ble_eq_true rfl) wd_171 rfl (v := .ref (o.1 11)) rfl dX5_year_84 ?_
            refine J_getN X hO.2.2.2.2.1.1 inX4 rfl 0 (Nat.le_of_ble_eq_true rfl) nw_125 rfl (v := .ref (o.1 12)) rfl dX5_year_87 ?_
            obtain ⟨v6, qv6, hf⟩ := ob hf
            refine J_callV X (rest := []) (rs := [.int v6]) (c_X2_shutIn l o emb A hA 12 hO.2.2.2.2.1.2 h4 v6 qv6) hO.2.2.2.2.1.2.1 rfl rfl wd_406 wd_407 wd_408 wd_35 wd_409 hd_X2_shutIn ⟨Nat.le_of_ble_eq_true rfl, Nat.le_of_ble_eq_true rfl⟩ ⟨Nat.zero_le _, Nat.zero_le _⟩ (Nat.le_of_ble_eq_true rfl) dX5_year_90 rfl rfl ?_
            obtain ⟨v7, qv7, hf⟩ := ob hf
            refine J_callS X (rest := []) (rs := [.int v7]) (c_J6_bitCount_0f7a4 l o emb A hA v6 h4 v7 qv7) wd_257 wd_258 wd_42 wd_259 hd_J6_bitCount_0f7a4 ⟨Nat.le_of_ble_eq_true rfl, Nat.le_of_ble_eq_true rfl⟩ ⟨Nat.zero_le _, Nat.zero_le _⟩ (Nat.le_of_ble_eq_true rfl) dX5_year_93 rfl rfl ?_
            cases hf
            exact J_iret X dX5_year_96
          · rw [if_neg c47_1] at hf
            refine J_lookup (tgt := 97) X dX5_year_47 (by decide) (sw_lk_0_1 c47_0 c47_1) (by decide) ?_
            refine J_aload_n X 0 dX5_year_97 rfl rfl ?_
            refine J_get X hO.1 inX5 rfl 3 (Nat.le_of_ble_eq_true rfl) wd_171 rfl (v := .ref (o.1 11)) rfl dX5_year_98 ?_
            refine J_getN X hO.2.2.2.2.1.1 inX4 rfl 0 (Nat.le_of_ble_eq_true rfl) nw_125 rfl (v := .ref (o.1 12)) rfl dX5_year_101 ?_
            obtain ⟨v5, qv5, hf⟩ := ob hf
            refine J_callV X (rest := []) (rs := [.int v5]) (c_X2_countOpen l o emb A hA 12 hO.2.2.2.2.1.2 h4 v5 qv5) hO.2.2.2.2.1.2.1 rfl rfl wd_563 wd_564 wd_565 wd_35 wd_566 hd_X2_countOpen ⟨Nat.le_of_ble_eq_true rfl, Nat.le_of_ble_eq_true rfl⟩ ⟨Nat.zero_le _, Nat.zero_le _⟩ (Nat.le_of_ble_eq_true rfl) dX5_year_104 rfl rfl ?_
            cases hf
            exact J_iret X dX5_year_107
      · rw [if_pos c27] at hf
        refine J_bipush X (-2 : Int32) dX5_year_30 (by decide) ?_
        cases hf
        exact J_iret X dX5_year_32
theorem hd_X5_image : yX5_image.cls ≠ "java/lang/invoke/MethodHandle" ∧ yX5_image.cls ≠ "java/lang/invoke/VarHandle" ∧ (parseMethodDescriptor yX5_image.desc).map (fun d => d.parameters.length) = some 1 := by decide +kernel
set_option maxHeartbeats 4000000 in
set_option maxRecDepth 100000 in
theorem c_X5_image (l : Launch) (o : Om) (emb : Hp → va_W) (A : Nat → Prop) (hA : ∀ h : Hp, va_D A (emb h)) (hO : isX5 o emb) (x1 : Int32) (h : Hp) (r : Int32) (h' : Hp) (hf : f_X5_image x1 h = some (r, h')) : Ct l o emb A yX5_image cX5_image 3 (some .int) 2 43 [.ref (o.1 0), .int x1] h (some (.int r)) h' := by
  refine Ct.of RX5 rfl (by decide +kernel) hA (Nat.le_of_ble_eq_true rfl) (fun p e s m args below meth c X => ?_)
  refine J_sub (lo' := [(0, .ref (o.1 0)), (1, .int x1)]) [0, 1] rfl ?_
  rw [f_X5_image] at hf
  refine J_iload_n X 1 dX5_image_0 rfl rfl ?_
  refine J_const X (0 : Int32) dX5_image_1 (by decide) ?_
  refine J_const X (1 : Int32) dX5_image_2 (by decide) ?_
  obtain ⟨v1, qv1, hf⟩ := ob hf
  refine J_callS X (rest := []) (rs := [.int v1]) (c_X5_within l o emb A hA x1 (0 : Int32) (1 : Int32) h v1 qv1) wd_216 wd_217 wd_34 wd_218 hd_X5_within ⟨Nat.le_of_ble_eq_true rfl, Nat.le_of_ble_eq_true rfl⟩ ⟨Nat.zero_le _, Nat.zero_le _⟩ (Nat.le_of_ble_eq_true rfl) dX5_image_3 rfl rfl ?_
  refine J_if_ne (tgt := 12) X dX5_image_6 (by decide) (fun c6 => ?_) (fun c6 => ?_)
  · rw [if_neg c6] at hf
    refine J_iload_n X 1 dX5_image_12 rfl rfl ?_
    refine J_if_ne (tgt := 23) X dX5_image_13 (by decide) (fun c13 => ?_) (fun c13 => ?_)
    · rw [if_neg c13] at hf
      refine J_aload_n X 0 dX5_image_23 rfl rfl ?_
      refine J_get X hO.1 inX5 rfl 5 (Nat.le_of_ble_eq_true rfl) wd_173 rfl (v := .ref (o.1 25)) rfl dX5_image_24 ?_
      refine J_astore_n X [(2, .ref (o.1 25)), (0, .ref (o.1 0)), (1, .int x1)] dX5_image_27 rfl (Nat.le_of_ble_eq_true rfl) rfl ?_
      refine J_aload_n X 0 dX5_image_28 rfl rfl ?_
      refine J_getN X hO.2.2.2.2.2.2.1.1 inX0 rfl 0 (Nat.le_of_ble_eq_true rfl) nw_156 rfl (v := .ref (o.1 26)) rfl dX5_image_29 ?_
      refine J_aload_n X 1 dX5_image_32 rfl rfl ?_
      refine J_get X hO.1 inX5 rfl 0 (Nat.le_of_ble_eq_true rfl) wd_168 rfl (v := .ref (o.1 1)) rfl dX5_image_33 ?_
      obtain ⟨h2, qh2, hf⟩ := ob hf
      refine J_callV X (rest := []) (rs := []) (c_X2_copyFrom l o emb A hA 26 1 hO.2.2.2.2.2.2.1.2.1 hO.2.1 h h2 qh2) hO.2.2.2.2.2.2.1.2.1.1 rfl rfl wd_384 wd_320 wd_321 wd_35 wd_322 hd_X2_copyFrom ⟨Nat.le_of_ble_eq_true rfl, Nat.le_of_ble_eq_true rfl⟩ ⟨Nat.zero_le _, Nat.zero_le _⟩ (Nat.le_of_ble_eq_true rfl) dX5_image_36 rfl rfl ?_
      refine J_aload_n X 0 dX5_image_39 rfl rfl ?_
      refine J_getN X hO.2.2.2.2.2.2.1.1 inX0 rfl 1 (Nat.le_of_ble_eq_true rfl) nw_158 rfl (v := .ref (o.1 30)) rfl dX5_image_40 ?_
      refine J_aload_n X 1 dX5_image_43 rfl rfl ?_
      refine J_get X hO.1 inX5 rfl 1 (Nat.le_of_ble_eq_true rfl) wd_169 rfl (v := .ref (o.1 5)) rfl dX5_image_44 ?_
      obtain ⟨h3, qh3, hf⟩ := ob hf
      refine J_callV X (rest := []) (rs := []) (c_X3_copyFrom l o emb A hA 30 5 hO.2.2.2.2.2.2.1.2.2 hO.2.2.1 h2 h3 qh3) hO.2.2.2.2.2.2.1.2.2.1 rfl rfl wd_572 wd_573 wd_574 wd_37 wd_575 hd_X3_copyFrom ⟨Nat.le_of_ble_eq_true rfl, Nat.le_of_ble_eq_true rfl⟩ ⟨Nat.zero_le _, Nat.zero_le _⟩ (Nat.le_of_ble_eq_true rfl) dX5_image_47 rfl rfl ?_
      refine J_aload_n X 0 dX5_image_50 rfl rfl ?_
      refine J_const X (1 : Int32) dX5_image_51 (by decide) ?_
      obtain ⟨h4, qh4, hf⟩ := ob hf
      refine J_putN X hO.2.2.2.2.2.2.1.1 inX0 tyX0 tyX0_ok nmX0 rfl 2 (Nat.le_of_ble_eq_true rfl) (by decide) nw_160 rfl rfl (ty := .boolean) (by decide +kernel) rfl rfl (Nat.le_of_ble_eq_true rfl) dX5_image_52 ?_
      refine J_hp h4 (Option.some.inj qh4) ?_
      refine J_const X (1 : Int32) dX5_image_55 (by decide) ?_
      cases hf
      exact J_iret X dX5_image_56
    · rw [if_pos c13] at hf
      refine J_aload_n X 0 dX5_image_16 rfl rfl ?_
      refine J_get X hO.1 inX5 rfl 4 (Nat.le_of_ble_eq_true rfl) wd_172 rfl (v := .ref (o.1 16)) rfl dX5_image_17 ?_
      refine J_goto (tgt := 27) X dX5_image_20 (by decide) ?_
      refine J_astore_n X [(2, .ref (o.1 16)), (0, .ref (o.1 0)), (1, .int x1)] dX5_image_27 rfl (Nat.le_of_ble_eq_true rfl) rfl ?_
      refine J_aload_n X 0 dX5_image_28 rfl rfl ?_
      refine J_getN X hO.2.2.2.2.2.1.1 inX0 rfl 0 (Nat.le_of_ble_eq_true rfl) nw_156 rfl (v := .ref (o.1 17)) rfl dX5_image_29 ?_
      refine J_aload_n X 1 dX5_image_32 rfl rfl ?_
      refine J_get X hO.1 inX5 rfl 0 (Nat.le_of_ble_eq_true rfl) wd_168 rfl (v := .ref (o.1 1)) rfl dX5_image_33 ?_
      obtain ⟨h5, qh5, hf⟩ := ob hf
      refine J_callV X (rest := []) (rs := []) (c_X2_copyFrom l o emb A hA 17 1 hO.2.2.2.2.2.1.2.1 hO.2.1 h h5 qh5) hO.2.2.2.2.2.1.2.1.1 rfl rfl wd_384 wd_320 wd_321 wd_35 wd_322 hd_X2_copyFrom ⟨Nat.le_of_ble_eq_true rfl, Nat.le_of_ble_eq_true rfl⟩ ⟨Nat.zero_le _, Nat.zero_le _⟩ (Nat.le_of_ble_eq_true rfl) dX5_image_36 rfl rfl ?_
      refine J_aload_n X 0 dX5_image_39 rfl rfl ?_
      refine J_getN X hO.2.2.2.2.2.1.1 inX0 rfl 1 (Nat.le_of_ble_eq_true rfl) nw_158 rfl (v := .ref (o.1 21)) rfl dX5_image_40 ?_
      refine J_aload_n X 1 dX5_image_43 rfl rfl ?_
      refine J_get X hO.1 inX5 rfl 1 (Nat.le_of_ble_eq_true rfl) wd_169 rfl (v := .ref (o.1 5)) rfl dX5_image_44 ?_
      obtain ⟨h6, qh6, hf⟩ := ob hf
      refine J_callV X (rest := []) (rs := []) (c_X3_copyFrom l o emb A hA 21 5 hO.2.2.2.2.2.1.2.2 hO.2.2.1 h5 h6 qh6) hO.2.2.2.2.2.1.2.2.1 rfl rfl wd_572 wd_573 wd_574 wd_37 wd_575 hd_X3_copyFrom ⟨Nat.le_of_ble_eq_true rfl, Nat.le_of_ble_eq_true rfl⟩ ⟨Nat.zero_le _, Nat.zero_le _⟩ (Nat.le_of_ble_eq_true rfl) dX5_image_47 rfl rfl ?_
      refine J_aload_n X 0 dX5_image_50 rfl rfl ?_
      refine J_const X (1 : Int32) dX5_image_51 (by decide) ?_
      obtain ⟨h7, qh7, hf⟩ := ob hf
      refine J_putN X hO.2.2.2.2.2.1.1 inX0 tyX0 tyX0_ok nmX0 rfl 2 (Nat.le_of_ble_eq_true rfl) (by decide) nw_160 rfl rfl (ty := .boolean) (by decide +kernel) rfl rfl (Nat.le_of_ble_eq_true rfl) dX5_image_52 ?_
      refine J_hp h7 (Option.some.inj qh7) ?_
      refine J_const X (1 : Int32) dX5_image_55 (by decide) ?_
      cases hf
      exact J_iret X dX5_image_56
  · rw [if_pos c6] at hf
    refine J_bipush X (-2 : Int32) dX5_image_9 (by decide) ?_
    cases hf
    exact J_iret X dX5_image_11
theorem hd_X5_restore : yX5_restore.cls ≠ "java/lang/invoke/MethodHandle" ∧ yX5_restore.cls ≠ "java/lang/invoke/VarHandle" ∧ (parseMethodDescriptor yX5_restore.desc).map (fun d => d.parameters.length) = some 1 := by decide +kernel
set_option maxHeartbeats 4000000 in
set_option maxRecDepth 100000 in
theorem c_X5_restore (l : Launch) (o : Om) (emb : Hp → va_W) (A : Nat → Prop) (hA : ∀ h : Hp, va_D A (emb h)) (hO : isX5 o emb) (x1 : Int32) (h : Hp) (r : Int32) (h' : Hp) (hf : f_X5_restore x1 h = some (r, h')) : Ct l o emb A yX5_restore cX5_restore 3 (some .int) 2 43 [.ref (o.1 0), .int x1] h (some (.int r)) h' := by
  refine Ct.of RX5 rfl (by decide +kernel) hA (Nat.le_of_ble_eq_true rfl) (fun p e s m args below meth c X => ?_)
  refine J_sub (lo' := [(0, .ref (o.1 0)), (1, .int x1)]) [0, 1] rfl ?_
  rw [f_X5_restore] at hf
  refine J_iload_n X 1 dX5_restore_0 rfl rfl ?_
  refine J_const X (0 : Int32) dX5_restore_1 (by decide) ?_
  refine J_const X (1 : Int32) dX5_restore_2 (by decide) ?_
  obtain ⟨v1, qv1, hf⟩ := ob hf
  refine J_callS X (rest := []) (rs := [.int v1]) (c_X5_within l o emb A hA x1 (0 : Int32) (1 : Int32) h v1 qv1) wd_216 wd_217 wd_34 wd_218 hd_X5_within ⟨Nat.le_of_ble_eq_true rfl, Nat.le_of_ble_eq_true rfl⟩ ⟨Nat.zero_le _, Nat.zero_le _⟩ (Nat.le_of_ble_eq_true rfl) dX5_restore_3 rfl rfl ?_
  refine J_if_ne (tgt := 12) X dX5_restore_6 (by decide) (fun c6 => ?_) (fun c6 => ?_)
  · rw [if_neg c6] at hf
    refine J_iload_n X 1 dX5_restore_12 rfl rfl ?_
    refine J_if_ne (tgt := 23) X dX5_restore_13 (by decide) (fun c13 => ?_) (fun c13 => ?_)
    · rw [if_neg c13] at hf
      refine J_aload_n X 0 dX5_restore_23 rfl rfl ?_
      refine J_get X hO.1 inX5 rfl 5 (Nat.le_of_ble_eq_true rfl) wd_173 rfl (v := .ref (o.1 25)) rfl dX5_restore_24 ?_
      refine J_astore_n X [(2, .ref (o.1 25)), (0, .ref (o.1 0)), (1, .int x1)] dX5_restore_27 rfl (Nat.le_of_ble_eq_true rfl) rfl ?_
      refine J_aload_n X 0 dX5_restore_28 rfl rfl ?_
      refine J_getN X hO.2.2.2.2.2.2.1.1 inX0 rfl 2 (Nat.le_of_ble_eq_true rfl) nw_160 rfl (v := .int (h.1 25 2)) rfl dX5_restore_29 ?_
      refine J_if_ne (tgt := 38) X dX5_restore_32 (by decide) (fun c32 => ?_) (fun c32 => ?_)
      · rw [if_neg c32] at hf
        refine J_aload_n X 1 dX5_restore_38 rfl rfl ?_
        refine J_get X hO.1 inX5 rfl 0 (Nat.le_of_ble_eq_true rfl) wd_168 rfl (v := .ref (o.1 1)) rfl dX5_restore_39 ?_
        refine J_aload_n X 0 dX5_restore_42 rfl rfl ?_
        refine J_getN X hO.2.2.2.2.2.2.1.1 inX0 rfl 0 (Nat.le_of_ble_eq_true rfl) nw_156 rfl (v := .ref (o.1 26)) rfl dX5_restore_43 ?_
        obtain ⟨h2, qh2, hf⟩ := ob hf
        refine J_callV X (rest := []) (rs := []) (c_X2_copyFrom l o emb A hA 1 26 hO.2.1 hO.2.2.2.2.2.2.1.2.1 h h2 qh2) hO.2.1.1 rfl rfl wd_384 wd_320 wd_321 wd_35 wd_322 hd_X2_copyFrom ⟨Nat.le_of_ble_eq_true rfl, Nat.le_of_ble_eq_true rfl⟩ ⟨Nat.zero_le _, Nat.zero_le _⟩ (Nat.le_of_ble_eq_true rfl) dX5_restore_46 rfl rfl ?_
        refine J_aload_n X 1 dX5_restore_49 rfl rfl ?_
        refine J_get X hO.1 inX5 rfl 1 (Nat.le_of_ble_eq_true rfl) wd_169 rfl (v := .ref (o.1 5)) rfl dX5_restore_50 ?_
        refine J_aload_n X 0 dX5_restore_53 rfl rfl ?_
        refine J_getN X hO.2.2.2.2.2.2.1.1 inX0 rfl 1 (Nat.le_of_ble_eq_true rfl) nw_158 rfl (v := .ref (o.1 30)) rfl dX5_restore_54 ?_
        obtain ⟨h3, qh3, hf⟩ := ob hf
        refine J_callV X (rest := []) (rs := []) (c_X3_copyFrom l o emb A hA 5 30 hO.2.2.1 hO.2.2.2.2.2.2.1.2.2 h2 h3 qh3) hO.2.2.1.1 rfl rfl wd_572 wd_573 wd_574 wd_37 wd_575 hd_X3_copyFrom ⟨Nat.le_of_ble_eq_true rfl, Nat.le_of_ble_eq_true rfl⟩ ⟨Nat.zero_le _, Nat.zero_le _⟩ (Nat.le_of_ble_eq_true rfl) dX5_restore_57 rfl rfl ?_
        refine J_const X (1 : Int32) dX5_restore_60 (by decide) ?_
        cases hf
        exact J_iret X dX5_restore_61
      · rw [if_pos c32] at hf
        refine J_bipush X (-3 : Int32) dX5_restore_35 (by decide) ?_
        cases hf
        exact J_iret X dX5_restore_37
    · rw [if_pos c13] at hf
      refine J_aload_n X 0 dX5_restore_16 rfl rfl ?_
      refine J_get X hO.1 inX5 rfl 4 (Nat.le_of_ble_eq_true rfl) wd_172 rfl (v := .ref (o.1 16)) rfl dX5_restore_17 ?_
      refine J_goto (tgt := 27) X dX5_restore_20 (by decide) ?_
      refine J_astore_n X [(2, .ref (o.1 16)), (0, .ref (o.1 0)), (1, .int x1)] dX5_restore_27 rfl (Nat.le_of_ble_eq_true rfl) rfl ?_
      refine J_aload_n X 0 dX5_restore_28 rfl rfl ?_
      refine J_getN X hO.2.2.2.2.2.1.1 inX0 rfl 2 (Nat.le_of_ble_eq_true rfl) nw_160 rfl (v := .int (h.1 16 2)) rfl dX5_restore_29 ?_
      refine J_if_ne (tgt := 38) X dX5_restore_32 (by decide) (fun c32 => ?_) (fun c32 => ?_)
      · rw [if_neg c32] at hf
        refine J_aload_n X 1 dX5_restore_38 rfl rfl ?_
        refine J_get X hO.1 inX5 rfl 0 (Nat.le_of_ble_eq_true rfl) wd_168 rfl (v := .ref (o.1 1)) rfl dX5_restore_39 ?_
        refine J_aload_n X 0 dX5_restore_42 rfl rfl ?_
        refine J_getN X hO.2.2.2.2.2.1.1 inX0 rfl 0 (Nat.le_of_ble_eq_true rfl) nw_156 rfl (v := .ref (o.1 17)) rfl dX5_restore_43 ?_
        obtain ⟨h4, qh4, hf⟩ := ob hf
        refine J_callV X (rest := []) (rs := []) (c_X2_copyFrom l o emb A hA 1 17 hO.2.1 hO.2.2.2.2.2.1.2.1 h h4 qh4) hO.2.1.1 rfl rfl wd_384 wd_320 wd_321 wd_35 wd_322 hd_X2_copyFrom ⟨Nat.le_of_ble_eq_true rfl, Nat.le_of_ble_eq_true rfl⟩ ⟨Nat.zero_le _, Nat.zero_le _⟩ (Nat.le_of_ble_eq_true rfl) dX5_restore_46 rfl rfl ?_
        refine J_aload_n X 1 dX5_restore_49 rfl rfl ?_
        refine J_get X hO.1 inX5 rfl 1 (Nat.le_of_ble_eq_true rfl) wd_169 rfl (v := .ref (o.1 5)) rfl dX5_restore_50 ?_
        refine J_aload_n X 0 dX5_restore_53 rfl rfl ?_
        refine J_getN X hO.2.2.2.2.2.1.1 inX0 rfl 1 (Nat.le_of_ble_eq_true rfl) nw_158 rfl (v := .ref (o.1 21)) rfl dX5_restore_54 ?_
        obtain ⟨h5, qh5, hf⟩ := ob hf
        refine J_callV X (rest := []) (rs := []) (c_X3_copyFrom l o emb A hA 5 21 hO.2.2.1 hO.2.2.2.2.2.1.2.2 h4 h5 qh5) hO.2.2.1.1 rfl rfl wd_572 wd_573 wd_574 wd_37 wd_575 hd_X3_copyFrom ⟨Nat.le_of_ble_eq_true rfl, Nat.le_of_ble_eq_true rfl⟩ ⟨Nat.zero_le _, Nat.zero_le _⟩ (Nat.le_of_ble_eq_true rfl) dX5_restore_57 rfl rfl ?_
        refine J_const X (1 : Int32) dX5_restore_60 (by decide) ?_
        cases hf
        exact J_iret X dX5_restore_61
      · rw [if_pos c32] at hf
        refine J_bipush X (-3 : Int32) dX5_restore_35 (by decide) ?_
        cases hf
        exact J_iret X dX5_restore_37
  · rw [if_pos c6] at hf
    refine J_bipush X (-2 : Int32) dX5_restore_9 (by decide) ?_
    cases hf
    exact J_iret X dX5_restore_11
theorem hd_X5_told : yX5_told.cls ≠ "java/lang/invoke/MethodHandle" ∧ yX5_told.cls ≠ "java/lang/invoke/VarHandle" ∧ (parseMethodDescriptor yX5_told.desc).map (fun d => d.parameters.length) = some 1 := by decide +kernel
set_option maxHeartbeats 4000000 in
set_option maxRecDepth 100000 in
theorem c_X5_told (l : Launch) (o : Om) (emb : Hp → va_W) (A : Nat → Prop) (hA : ∀ h : Hp, va_D A (emb h)) (hO : isX5 o emb) (x1 : Int32) (h : Hp) (r : Int32) (hf : f_X5_told x1 h = some r) : Ct l o emb A yX5_told cX5_told 4 (some .int) 4 88 [.ref (o.1 0), .int x1] h (some (.int r)) h := by
  refine Ct.of RX5 rfl (by decide +kernel) hA (Nat.le_of_ble_eq_true rfl) (fun p e s m args below meth c X => ?_)
  refine J_sub (lo' := [(0, .ref (o.1 0)), (1, .int x1)]) [0, 1] rfl ?_
  rw [f_X5_told] at hf
  refine J_iload_n X 1 dX5_told_0 rfl rfl ?_
  refine J_if_ne (tgt := 12) X dX5_told_1 (by decide) (fun c1 => ?_) (fun c1 => ?_)
  · rw [if_neg c1] at hf
    refine J_iload_n X 1 dX5_told_12 rfl rfl ?_
    refine J_const X (1 : Int32) dX5_told_13 (by decide) ?_
    refine J_icmp_ne (tgt := 25) X dX5_told_14 (by decide) (fun c14 => ?_) (fun c14 => ?_)
    · rw [if_neg c14] at hf
      refine J_iload_n X 1 dX5_told_25 rfl rfl ?_
      refine J_const X (2 : Int32) dX5_told_26 (by decide) ?_
      refine J_icmp_ne (tgt := 38) X dX5_told_27 (by decide) (fun c27 => ?_) (fun c27 => ?_)
      · rw [if_neg c27] at hf
        refine J_iload_n X 1 dX5_told_38 rfl rfl ?_
        refine J_const X (3 : Int32) dX5_told_39 (by decide) ?_
        refine J_icmp_ne (tgt := 51) X dX5_told_40 (by decide) (fun c40 => ?_) (fun c40 => ?_)
        · rw [if_neg c40] at hf
          refine J_iload_n X 1 dX5_told_51 rfl rfl ?_
          refine J_bipush X (10 : Int32) dX5_told_52 (by decide) ?_
          refine J_bipush X (19 : Int32) dX5_told_54 (by decide) ?_
          obtain ⟨v1, qv1, hf⟩ := ob hf
          refine J_callS X (rest := []) (rs := [.int v1]) (c_X5_within l o emb A hA x1 (10 : Int32) (19 : Int32) h v1 qv1) wd_216 wd_217 wd_34 wd_218 hd_X5_within ⟨Nat.le_of_ble_eq_true rfl, Nat.le_of_ble_eq_true rfl⟩ ⟨Nat.zero_le _, Nat.zero_le _⟩ (Nat.le_of_ble_eq_true rfl) dX5_told_56 rfl rfl ?_
          refine J_if_eq (tgt := 93) X dX5_told_59 (by decide) (fun c59 => ?_) (fun c59 => ?_)
          · rw [if_pos c59] at hf
            refine J_iload_n X 1 dX5_told_93 rfl rfl ?_
            refine J_bipush X (20 : Int32) dX5_told_94 (by decide) ?_
            refine J_bipush X (29 : Int32) dX5_told_96 (by decide) ?_
            obtain ⟨v2, qv2, hf⟩ := ob hf
            refine J_callS X (rest := []) (rs := [.int v2]) (c_X5_within l o emb A hA x1 (20 : Int32) (29 : Int32) h v2 qv2) wd_216 wd_217 wd_34 wd_218 hd_X5_within ⟨Nat.le_of_ble_eq_true rfl, Nat.le_of_ble_eq_true rfl⟩ ⟨Nat.zero_le _, Nat.zero_le _⟩ (Nat.le_of_ble_eq_true rfl) dX5_told_98 rfl rfl ?_
            refine J_if_eq (tgt := 135) X dX5_told_101 (by decide) (fun c101 => ?_) (fun c101 => ?_)
            · rw [if_pos c101] at hf
              refine J_iload_n X 1 dX5_told_135 rfl rfl ?_
              refine J_bipush X (30 : Int32) dX5_told_136 (by decide) ?_
              refine J_bipush X (39 : Int32) dX5_told_138 (by decide) ?_
              obtain ⟨v3, qv3, hf⟩ := ob hf
              refine J_callS X (rest := []) (rs := [.int v3]) (c_X5_within l o emb A hA x1 (30 : Int32) (39 : Int32) h v3 qv3) wd_216 wd_217 wd_34 wd_218 hd_X5_within ⟨Nat.le_of_ble_eq_true rfl, Nat.le_of_ble_eq_true rfl⟩ ⟨Nat.zero_le _, Nat.zero_le _⟩ (Nat.le_of_ble_eq_true rfl) dX5_told_140 rfl rfl ?_
              refine J_if_eq (tgt := 173) X dX5_told_143 (by decide) (fun c143 => ?_) (fun c143 => ?_)
              · rw [if_pos c143] at hf
                refine J_iload_n X 1 dX5_told_173 rfl rfl ?_
                refine J_bipush X (100 : Int32) dX5_told_174 (by decide) ?_
                refine J_sipush X (199 : Int32) dX5_told_176 (by decide) ?_
                obtain ⟨v4, qv4, hf⟩ := ob hf
                refine J_callS X (rest := []) (rs := [.int v4]) (c_X5_within l o emb A hA x1 (100 : Int32) (199 : Int32) h v4 qv4) wd_216 wd_217 wd_34 wd_218 hd_X5_within ⟨Nat.le_of_ble_eq_true rfl, Nat.le_of_ble_eq_true rfl⟩ ⟨Nat.zero_le _, Nat.zero_le _⟩ (Nat.le_of_ble_eq_true rfl) dX5_told_179 rfl rfl ?_
                refine J_if_ne (tgt := 188) X dX5_told_182 (by decide) (fun c182 => ?_) (fun c182 => ?_)
                · rw [if_neg c182] at hf
                  refine J_iload_n X 1 dX5_told_188 rfl rfl ?_
                  refine J_bipush X (100 : Int32) dX5_told_189 (by decide) ?_
                  refine J_isub X dX5_told_191 ?_
                  refine J_bipush X (10 : Int32) dX5_told_192 (by decide) ?_
                  refine J_idiv X dX5_told_194 (by decide) ?_
                  obtain ⟨v5, qv5, hf⟩ := ob hf
                  refine J_topi v5 (Option.some.inj qv5) ?_
                  refine J_istore_n X [(2, .int v5), (0, .ref (o.1 0)), (1, .int x1)] dX5_told_195 rfl (Nat.le_of_ble_eq_true rfl) rfl ?_
                  refine J_iload_n X 2 dX5_told_196 rfl rfl ?_
                  refine J_bipush X (100 : Int32) dX5_told_197 (by decide) ?_
                  refine J_isub X dX5_told_199 ?_
                  refine J_bipush X (10 : Int32) dX5_told_200 (by decide) ?_
                  refine J_irem X dX5_told_202 (by decide) ?_
                  obtain ⟨v6, qv6, hf⟩ := ob hf
                  refine J_topi v6 (Option.some.inj qv6) ?_
                  refine J_istore_n X [(3, .int v6), (2, .int v5), (0, .ref (o.1 0)), (1, .int x1)] dX5_told_203 rfl (Nat.le_of_ble_eq_true rfl) rfl ?_
                  refine J_iload_n X 1 dX5_told_204 rfl rfl ?_
                  obtain ⟨v7, qv7, hf⟩ := ob hf
                  refine J_callS X (rest := []) (rs := [.int v7]) (c_X5_isPlace l o emb A hA v5 h v7 qv7) wd_238 wd_239 wd_34 wd_240 hd_X5_isPlace ⟨Nat.le_of_ble_eq_true rfl, Nat.le_of_ble_eq_true rfl⟩ ⟨Nat.zero_le _, Nat.zero_le _⟩ (Nat.le_of_ble_eq_true rfl) dX5_told_205 rfl rfl ?_
                  refine J_if_eq (tgt := 230) X dX5_told_208 (by decide) (fun c208 => ?_) (fun c208 => ?_)
                  · rw [if_pos c208] at hf
                    refine J_bipush X (-2 : Int32) dX5_told_230 (by decide) ?_
                    cases hf
                    exact J_iret X dX5_told_232
                  · rw [if_neg c208] at hf
                    refine J_iload_n X 0 dX5_told_211 rfl rfl ?_
                    obtain ⟨v8, qv8, hf⟩ := ob hf
                    refine J_callS X (rest := []) (rs := [.int v8]) (c_X5_isPlace l o emb A hA v6 h v8 qv8) wd_238 wd_239 wd_34 wd_240 hd_X5_isPlace ⟨Nat.le_of_ble_eq_true rfl, Nat.le_of_ble_eq_true rfl⟩ ⟨Nat.zero_le _, Nat.zero_le _⟩ (Nat.le_of_ble_eq_true rfl) dX5_told_212 rfl rfl ?_
                    refine J_if_eq (tgt := 230) X dX5_told_215 (by decide) (fun c215 => ?_) (fun c215 => ?_)
                    · rw [if_pos c215] at hf
                      refine J_bipush X (-2 : Int32) dX5_told_230 (by decide) ?_
                      cases hf
                      exact J_iret X dX5_told_232
                    · rw [if_neg c215] at hf
                      refine J_aload_n X 2 dX5_told_218 rfl rfl ?_
                      refine J_get X hO.1 inX5 rfl 0 (Nat.le_of_ble_eq_true rfl) wd_168 rfl (v := .ref (o.1 1)) rfl dX5_told_219 ?_
                      refine J_iload_n X 1 dX5_told_222 rfl rfl ?_
                      refine J_iload_n X 0 dX5_told_223 rfl rfl ?_
                      obtain ⟨v9, qv9, hf⟩ := ob hf
                      refine J_callV X (rest := []) (rs := [.int v9]) (c_X2_roadBetween l o emb A hA 1 hO.2.1 v5 v6 h v9 qv9) hO.2.1.1 rfl rfl wd_389 wd_341 wd_342 wd_35 wd_343 hd_X2_roadBetween ⟨Nat.le_of_ble_eq_true rfl, Nat.le_of_ble_eq_true rfl⟩ ⟨Nat.zero_le _, Nat.zero_le _⟩ (Nat.le_of_ble_eq_true rfl) dX5_told_224 rfl rfl ?_
                      refine J_goto (tgt := 232) X dX5_told_227 (by decide) ?_
                      cases hf
                      exact J_iret X dX5_told_232
                · rw [if_pos c182] at hf
                  refine J_bipush X (-2 : Int32) dX5_told_185 (by decide) ?_
                  cases hf
                  exact J_iret X dX5_told_187
              · rw [if_neg c143] at hf
                refine J_iload_n X 1 dX5_told_146 rfl rfl ?_
                refine J_bipush X (30 : Int32) dX5_told_147 (by decide) ?_
                refine J_isub X dX5_told_149 ?_
                obtain ⟨v10, qv10, hf⟩ := ob hf
                refine J_callS X (rest := []) (rs := [.int v10]) (c_X5_isPlace l o emb A hA (x1 - (30 : Int32)) h v10 qv10) wd_238 wd_239 wd_34 wd_240 hd_X5_isPlace ⟨Nat.le_of_ble_eq_true rfl, Nat.le_of_ble_eq_true rfl⟩ ⟨Nat.zero_le _, Nat.zero_le _⟩ (Nat.le_of_ble_eq_true rfl) dX5_told_150 rfl rfl ?_
                refine J_if_eq (tgt := 170) X dX5_told_153 (by decide) (fun c153 => ?_) (fun c153 => ?_)
                · rw [if_pos c153] at hf
                  refine J_bipush X (-2 : Int32) dX5_told_170 (by decide) ?_
                  cases hf
                  exact J_iret X dX5_told_172
                · rw [if_neg c153] at hf
                  refine J_aload_n X 0 dX5_told_156 rfl rfl ?_
                  refine J_get X hO.1 inX5 rfl 0 (Nat.le_of_ble_eq_true rfl) wd_168 rfl (v := .ref (o.1 1)) rfl dX5_told_157 ?_
                  refine J_iload_n X 1 dX5_told_160 rfl rfl ?_
                  refine J_bipush X (30 : Int32) dX5_told_161 (by decide) ?_
                  refine J_isub X dX5_told_163 ?_
                  obtain ⟨v11, qv11, hf⟩ := ob hf
                  refine J_callV X (rest := []) (rs := [.int v11]) (c_X2_openFrom l o emb A hA 1 hO.2.1 (x1 - (30 : Int32)) h v11 qv11) hO.2.1.1 rfl rfl wd_455 wd_411 wd_412 wd_35 wd_413 hd_X2_openFrom ⟨Nat.le_of_ble_eq_true rfl, Nat.le_of_ble_eq_true rfl⟩ ⟨Nat.zero_le _, Nat.zero_le _⟩ (Nat.le_of_ble_eq_true rfl) dX5_told_164 rfl rfl ?_
                  refine J_goto (tgt := 172) X dX5_told_167 (by decide) ?_
                  cases hf
                  exact J_iret X dX5_told_172
            · rw [if_neg c101] at hf
              refine J_aload_n X 0 dX5_told_104 rfl rfl ?_
              refine J_get X hO.1 inX5 rfl 0 (Nat.le_of_ble_eq_true rfl) wd_168 rfl (v := .ref (o.1 1)) rfl dX5_told_105 ?_
              refine J_iload_n X 1 dX5_told_108 rfl rfl ?_
              refine J_bipush X (20 : Int32) dX5_told_109 (by decide) ?_
              refine J_isub X dX5_told_111 ?_
              obtain ⟨v12, qv12, hf⟩ := ob hf
              refine J_callV X (rest := []) (rs := [.int v12]) (c_X2_isThere l o emb A hA 1 hO.2.1 (x1 - (20 : Int32)) h v12 qv12) hO.2.1.1 rfl rfl wd_394 wd_250 wd_251 wd_35 wd_252 hd_X2_isThere ⟨Nat.le_of_ble_eq_true rfl, Nat.le_of_ble_eq_true rfl⟩ ⟨Nat.zero_le _, Nat.zero_le _⟩ (Nat.le_of_ble_eq_true rfl) dX5_told_112 rfl rfl ?_
              refine J_if_eq (tgt := 132) X dX5_told_115 (by decide) (fun c115 => ?_) (fun c115 => ?_)
              · rw [if_pos c115] at hf
                refine J_bipush X (-2 : Int32) dX5_told_132 (by decide) ?_
                cases hf
                exact J_iret X dX5_told_134
              · rw [if_neg c115] at hf
                refine J_aload_n X 0 dX5_told_118 rfl rfl ?_
                refine J_get X hO.1 inX5 rfl 0 (Nat.le_of_ble_eq_true rfl) wd_168 rfl (v := .ref (o.1 1)) rfl dX5_told_119 ?_
                refine J_iload_n X 1 dX5_told_122 rfl rfl ?_
                refine J_bipush X (20 : Int32) dX5_told_123 (by decide) ?_
                refine J_isub X dX5_told_125 ?_
                obtain ⟨v13, qv13, hf⟩ := ob hf
                refine J_callV X (rest := []) (rs := [.int v13]) (c_X2_ironOf l o emb A hA 1 hO.2.1 (x1 - (20 : Int32)) h v13 qv13) hO.2.1.1 rfl rfl wd_396 wd_363 wd_364 wd_35 wd_365 hd_X2_ironOf ⟨Nat.le_of_ble_eq_true rfl, Nat.le_of_ble_eq_true rfl⟩ ⟨Nat.zero_le _, Nat.zero_le _⟩ (Nat.le_of_ble_eq_true rfl) dX5_told_126 rfl rfl ?_
                refine J_goto (tgt := 134) X dX5_told_129 (by decide) ?_
                cases hf
                exact J_iret X dX5_told_134
          · rw [if_neg c59] at hf
            refine J_aload_n X 0 dX5_told_62 rfl rfl ?_
            refine J_get X hO.1 inX5 rfl 0 (Nat.le_of_ble_eq_true rfl) wd_168 rfl (v := .ref (o.1 1)) rfl dX5_told_63 ?_
            refine J_iload_n X 1 dX5_told_66 rfl rfl ?_
            refine J_bipush X (10 : Int32) dX5_told_67 (by decide) ?_
            refine J_isub X dX5_told_69 ?_
            obtain ⟨v14, qv14, hf⟩ := ob hf
            refine J_callV X (rest := []) (rs := [.int v14]) (c_X2_isThere l o emb A hA 1 hO.2.1 (x1 - (10 : Int32)) h v14 qv14) hO.2.1.1 rfl rfl wd_394 wd_250 wd_251 wd_35 wd_252 hd_X2_isThere ⟨Nat.le_of_ble_eq_true rfl, Nat.le_of_ble_eq_true rfl⟩ ⟨Nat.zero_le _, Nat.zero_le _⟩ (Nat.le_of_ble_eq_true rfl) dX5_told_70 rfl rfl ?_
            refine J_if_eq (tgt := 90) X dX5_told_73 (by decide) (fun c73 => ?_) (fun c73 => ?_)
            · rw [if_pos c73] at hf
              refine J_bipush X (-2 : Int32) dX5_told_90 (by decide) ?_
              cases hf
              exact J_iret X dX5_told_92
            · rw [if_neg c73] at hf
              refine J_aload_n X 0 dX5_told_76 rfl rfl ?_
              refine J_get X hO.1 inX5 rfl 0 (Nat.le_of_ble_eq_true rfl) wd_168 rfl (v := .ref (o.1 1)) rfl dX5_told_77 ?_
              refine J_iload_n X 1 dX5_told_80 rfl rfl ?_
              refine J_bipush X (10 : Int32) dX5_told_81 (by decide) ?_
              refine J_isub X dX5_told_83 ?_
              obtain ⟨v15, qv15, hf⟩ := ob hf
              refine J_callV X (rest := []) (rs := [.int v15]) (c_X2_placeOf l o emb A hA 1 hO.2.1 (x1 - (10 : Int32)) h v15 qv15) hO.2.1.1 rfl rfl wd_395 wd_371 wd_372 wd_35 wd_373 hd_X2_placeOf ⟨Nat.le_of_ble_eq_true rfl, Nat.le_of_ble_eq_true rfl⟩ ⟨Nat.zero_le _, Nat.zero_le _⟩ (Nat.le_of_ble_eq_true rfl) dX5_told_84 rfl rfl ?_
              refine J_goto (tgt := 92) X dX5_told_87 (by decide) ?_
              cases hf
              exact J_iret X dX5_told_92
        · rw [if_pos c40] at hf
          refine J_aload_n X 0 dX5_told_43 rfl rfl ?_
          refine J_get X hO.1 inX5 rfl 1 (Nat.le_of_ble_eq_true rfl) wd_169 rfl (v := .ref (o.1 5)) rfl dX5_told_44 ?_
          refine J_getN X hO.2.2.1.1 inX3 rfl 3 (Nat.le_of_ble_eq_true rfl) nw_91 rfl (v := .int (h.1 5 3)) rfl dX5_told_47 ?_
          cases hf
          exact J_iret X dX5_told_50
      · rw [if_pos c27] at hf
        refine J_aload_n X 0 dX5_told_30 rfl rfl ?_
        refine J_get X hO.1 inX5 rfl 0 (Nat.le_of_ble_eq_true rfl) wd_168 rfl (v := .ref (o.1 1)) rfl dX5_told_31 ?_
        refine J_getN X hO.2.1.1 inX2 rfl 3 (Nat.le_of_ble_eq_true rfl) nw_65 rfl (v := .int (h.1 1 3)) rfl dX5_told_34 ?_
        cases hf
        exact J_iret X dX5_told_37
    · rw [if_pos c14] at hf
      refine J_aload_n X 0 dX5_told_17 rfl rfl ?_
      refine J_get X hO.1 inX5 rfl 0 (Nat.le_of_ble_eq_true rfl) wd_168 rfl (v := .ref (o.1 1)) rfl dX5_told_18 ?_
      obtain ⟨v16, qv16, hf⟩ := ob hf
      refine J_callV X (rest := []) (rs := [.int v16]) (c_X2_walkersThere l o emb A hA 1 hO.2.1 h v16 qv16) hO.2.1.1 rfl rfl wd_245 wd_246 wd_247 wd_35 wd_248 hd_X2_walkersThere ⟨Nat.le_of_ble_eq_true rfl, Nat.le_of_ble_eq_true rfl⟩ ⟨Nat.zero_le _, Nat.zero_le _⟩ (Nat.le_of_ble_eq_true rfl) dX5_told_21 rfl rfl ?_
      cases hf
      exact J_iret X dX5_told_24
  · rw [if_pos c1] at hf
    refine J_aload_n X 0 dX5_told_4 rfl rfl ?_
    refine J_get X hO.1 inX5 rfl 2 (Nat.le_of_ble_eq_true rfl) wd_170 rfl (v := .ref (o.1 9)) rfl dX5_told_5 ?_
    refine J_getN X hO.2.2.2.1.1 inX1 rfl 1 (Nat.le_of_ble_eq_true rfl) nw_110 rfl (v := .int (h.1 9 1)) rfl dX5_told_8 ?_
    cases hf
    exact J_iret X dX5_told_11
end CERT
