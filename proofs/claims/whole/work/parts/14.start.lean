/-! THE START: the tables give classes and array classes; both constructors; the loop. -/
theorem arr_known {args : Array Value} {s : State} {ty : FieldType} (h : (Cond.arrayClass ty).before args s = true) (hp : ∀ cA : ClassId, s.vm.findClass ("[" ++ ty.toString) = some cA → va_RA s cA ty) : ∃ cA : ClassId, ArrOfT s cA ty ∧ va_RA s cA ty := by
  obtain ⟨cA, kA, comp, h1, h2, h3⟩ := Cond.arrayClass_spec h
  exact ⟨cA, fun n z => ⟨fun k h => (by cases h), kA, h2, comp, h3⟩, hp cA h1⟩
set_option maxHeartbeats 4000000 in
set_option maxRecDepth 100000 in
theorem whole_start_of {Rl : Hp → Hp → Prop} (H_road : op_road Rl) (H_walker : op_walker Rl) (H_say : op_say Rl) (H_wipe : op_wipe Rl) (H_fault : op_fault Rl) (H_judge : op_judge Rl) (H_done : op_done Rl) (H_behind : op_behind Rl) (H_goes : op_goes Rl) (H_then : op_then Rl) (H_way : op_way Rl) (H_parts : op_parts Rl) (H_strokes : op_strokes Rl) (H_mended : op_mended Rl) (H_pays : op_pays Rl) (H_seen : op_seen Rl) (H_forget : op_forget Rl) (H_who : op_who Rl) (H_ask : op_ask Rl) (H_tacks : op_tacks Rl) (H_wet : op_wet Rl) (H_year : op_year Rl) (H_image : op_image Rl) (H_restore : op_restore Rl) (H_told : op_told Rl) (H0r : Rl hX0 hM0) {p : Program} {e : Env} {s : State} {m : MethodId} {below : List Frame} {meth : Method} {c : Code} (l : Launch) {b L : Nat} {xs : Nat → Int32} (hL : L ≤ 384) (C0 : lw_At p s m meth c b L xs) : W p l e room_1 s m #[Value.ref b] below meth c s.heap [] 0 0 (lw_Z below #[Value.ref b] s) (entryFrame m ([Value.ref b] : List Value).toArray 4) := by
  obtain ⟨hx, hb, hr, hml, hown, hts0, hX, hbl, hlocks, hgv⟩ := id C0
  have hts : ∀ w ∈ TT, w.before #[Value.ref b] s = true := fun w hw => hts0 w (TTall w hw)
  have hN : ∀ w ∈ NW, va_Nw w s := fun w hw => va_Nw.of (nest_on w hw) (hts0 w (NWall w hw))
  have hA : ∀ q : Nat, s.heap.size ≤ q → (fun q : Nat => s.heap.size ≤ q) q := fun _ h => h
  obtain ⟨c0, iS0, hKn0⟩ := u_known (C := RX0) (T := TX0) (N := 3) (n := 3) hts inX0 (hts (.instantiable RX0 3) wd_146)
  obtain ⟨c1, iS1, hKn1⟩ := u_known (C := RX1) (T := TX1) (N := 2) (n := 2) hts inX1 (hts (.instantiable RX1 2) wd_102)
  obtain ⟨c2, iS2, hKn2⟩ := u_known (C := RX2) (T := TX2) (N := 5) (n := 5) hts inX2 (hts (.instantiable RX2 5) wd_53)
  obtain ⟨c3, iS3, hKn3⟩ := u_known (C := RX3) (T := TX3) (N := 4) (n := 4) hts inX3 (hts (.instantiable RX3 4) wd_82)
  obtain ⟨c4, iS4, hKn4⟩ := u_known (C := RX4) (T := TX4) (N := 5) (n := 5) hts inX4 (hts (.instantiable RX4 5) wd_117)
  obtain ⟨c5, iS5, hKn5⟩ := u_known (C := RX5) (T := TX5) (N := 13) (n := 13) hts inX5 (hts (.instantiable RX5 13) wd_45)
  obtain ⟨c6, iS6, hKn6⟩ := u_known (C := RX6) (T := TX6) (N := 20) (n := 20) hts inX6 (hts (.instantiable RX6 20) wd_586)
  obtain ⟨dC, dI, hKc⟩ : ∃ (dC : Nat → ClassId) (dI : Nat → Nat → Nat), ∀ (k : Nat) (q : vw_C), vwCl[k]? = some q → u_Kn s q.1 q.2.1 q.2.2 (dC k) (dI k) := by
    refine ⟨fun k => [c0, c1, c2, c3, c4, c5, c6].getD k 0, fun k => [iS0, iS1, iS2, iS3, iS4, iS5, iS6].getD k (fun _ => 0), ?_⟩
    intro k q hq
    match k, hq with
    | 0, hq => cases hq; exact hKn0
    | 1, hq => cases hq; exact hKn1
    | 2, hq => cases hq; exact hKn2
    | 3, hq => cases hq; exact hKn3
    | 4, hq => cases hq; exact hKn4
    | 5, hq => cases hq; exact hKn5
    | 6, hq => cases hq; exact hKn6
    | k + 7, hq => simp [vwCl] at hq
  obtain ⟨aI, hAI, hBI⟩ : ∃ cA : ClassId, ArrOfT s cA .int ∧ va_RA s cA .int := arr_known (hts (.arrayClass .int) wd_80) (fun _ h => h)
  obtain ⟨aL, hAL, hBL⟩ : ∃ cA : ClassId, ArrOfT s cA .long ∧ va_RA s cA .long := arr_known (hts (.arrayClass .long) wd_208) (fun _ h => h)
  obtain ⟨aZ, hAZ, hBZ⟩ : ∃ cA : ClassId, ArrOfT s cA .boolean ∧ va_RA s cA .boolean := arr_known (hts (.arrayClass .boolean) wd_652) (fun _ h => h)
  have hKK : va_K (dC, dI) vwCl [(aI, .int), (aL, .long), (aZ, .boolean)] s := by
    refine ⟨hKc, ?_⟩
    intro k q hq
    match k, hq with
    | 0, hq => cases hq; exact ⟨hAI, hBI⟩
    | 1, hq => cases hq; exact ⟨hAL, hBL⟩
    | 2, hq => cases hq; exact ⟨hAZ, hBZ⟩
    | k + 3, hq => simp at hq
  obtain ⟨d, hd⟩ : ∃ d : va_G × ClassId × ClassId × ClassId, d = ((dC, dI), aI, aL, aZ) := ⟨_, rfl⟩
  have XX : ∀ ad : Nat → Nat, Cx p s m #[Value.ref b] meth c RL cL_law 4 ret (ad, d) := fun ad => ⟨hx, hb, hml, hown, hts, by subst hd; exact hKK, hN, hr, hlocks⟩
  have X := XX (fun _ => 0)
  have K : J p l e room_1 s m #[Value.ref b] below meth c 0 0 (lw_Z below #[Value.ref b] s) ((fun _ => 0), d) (kw [] []) (fun q => s.heap.size ≤ q) s.heap 4 0 [(0, .ref b)] [] HZ := by
    refine J_new X hA (ci := 5) inX5 tyX5 tyX5_ok wd_44 wd_45 wd_34 rfl [.null, .null, .null, .null, .null, .null, .null, .null, .null, .null, .null, .null, .null] df_X5 ⟨(Nat.le_of_ble_eq_true rfl), (Nat.le_of_ble_eq_true rfl)⟩ dL_law_0 (fun qx => ?_)
    refine J_dup X dL_law_3 rfl ?_
    refine J_callI X hA (c_X5_init l ((fun _ => 0), d) (fun q => s.heap.size ≤ q) ([] ++ []) qx) wd_46 wd_47 wd_34 wd_48 rfl hd_X5_init ⟨(Nat.le_of_ble_eq_true rfl), (Nat.le_of_ble_eq_true rfl)⟩ ⟨(Nat.le_of_ble_eq_true rfl), (Nat.le_of_ble_eq_true rfl)⟩ (Nat.le_of_ble_eq_true rfl) dL_law_4 (fun ws9 hP9 => ?_)
    obtain ⟨adX, e0, rfl⟩ := hP9
    subst e0
    refine J_sw (o2 := ((fun _ => 0), d)) (emb2 := kw (wX (adX, d) hX0) []) (h2 := HZ) rfl (by simp [kw]) (fun hd _ => hd) ?_
    refine J_astore_n X [(1, .ref (adX 0)), (0, .ref b)] dL_law_7 rfl (Nat.le_of_ble_eq_true rfl) rfl ?_
    refine J_new X hA (ci := 6) inX6 tyX6 tyX6_ok wd_585 wd_586 wd_41 rfl [.null, .null, .int 0, .int 0, .null, .int 0, .null, .int 0, .int 0, .int 0, .int 0, .null, .null, .null, .null, .null, .null, .null, .null, .null] df_X6 ⟨(Nat.le_of_ble_eq_true rfl), (Nat.le_of_ble_eq_true rfl)⟩ dL_law_8 (fun qm => ?_)
    refine J_dup X dL_law_11 rfl ?_
    refine J_callI X hA (c_X6_init l ((fun _ => 0), d) (fun q => s.heap.size ≤ q) (wX (adX, d) hX0 ++ []) qm) wd_587 wd_588 wd_41 wd_589 rfl hd_X6_init ⟨(Nat.le_of_ble_eq_true rfl), (Nat.le_of_ble_eq_true rfl)⟩ ⟨(Nat.le_of_ble_eq_true rfl), (Nat.le_of_ble_eq_true rfl)⟩ (Nat.le_of_ble_eq_true rfl) dL_law_12 (fun ws9 hP9 => ?_)
    obtain ⟨adM, e0, rfl⟩ := hP9
    subst e0
    refine J_sw (o2 := (adX, d)) (emb2 := fun h => wX (adX, d) h ++ wM (adM, d) hM0) (h2 := hX0) rfl (by simp) (fun hd _ => va_D_fst (by simp [wX]) hd) ?_
    refine J_astore_n (XX adX) [(2, .ref (adM 0)), (1, .ref (adX 0)), (0, .ref b)] dL_law_15 rfl (Nat.le_of_ble_eq_true rfl) rfl ?_
    refine J_const (XX adX) (0 : Int32) dL_law_16 (by decide) ?_
    refine J_istore_n (XX adX) [(3, .int (0 : Int32)), (2, .ref (adM 0)), (1, .ref (adX 0)), (0, .ref b)] dL_law_17 rfl (Nat.le_of_ble_eq_true rfl) rfl ?_
    exact J_sub [3, 2, 1, 0] rfl (law_loop H_road H_walker H_say H_wipe H_fault H_judge H_done H_behind H_goes H_then H_way H_parts H_strokes H_mended H_pays H_seen H_forget H_who H_ask H_tacks H_wet H_year H_image H_restore H_told (XX adX) hX hbl hL (L + 1) 0 hX0 hM0 H0r (Nat.zero_le L) (by omega))
  rw [lg_entry_eq]
  exact K s.heap [] _ ⟨fun k q h => by simp [kw] at h, va_S.rf, fun _ => ⟨fun i j p q h => by simp [kw] at h, fun k q h => by simp [kw] at h⟩⟩ (lv_entry [.ref b] (Nat.le_of_ble_eq_true rfl))
