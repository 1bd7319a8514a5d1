def R_law : String := "RoadCobblersLaw"
def lw_P (b : Addr) (xs : List Int32) (args : Array Value) (s : State) : Prop := args = #[.ref b] ∧ s.IntsAt b xs ∧ xs.length ≤ 384 ∧ (Jvm.Cond.and given_1 narrow_1).before args s = true
def lw_Q (_ : Array Value) (s : State) (o : Outcome) (t : State) : Prop := o = .returned (some (.int 1)) ∧ Framed s o t [] 55 4744
def lw_Z (below : List Frame) (a : Array Value) (s : State) : State → Prop := fun t => ∃ o, t.status = .running ∧ Ended t below o ∧ lw_Q a s o t
/-- the law's own end, with 1 on the stack, nothing written that was there before, its room as the claim has it -/
theorem lw_ret {p : Program} {l : Launch} {e : Env} {s : State} {m : MethodId} {below : List Frame} {meth : Method} {c : Code} {b : Nat} (hx : p.tables.exec = Jvm.exec) (hb : c.code = code) (hr : meth.sig.returnType = ret) (hlocks : meth.locks = false) {pc : Nat} {H : Heap} {ls : Array Slot} (hdg : decode code pc = .ok (.ireturn, 1)) : W p l e room_1 s m #[Value.ref b] below meth c H [] 55 4744 (lw_Z below #[Value.ref b] s) (F0 m pc ls [.int 1]) := by
  intro T hT X
  obtain ⟨fs, hret, hrun, hended, hW, hframe⟩ := X.leave (v := some (.int 1)) (hlocks := hlocks) (fun h => by rw [hr] at h; cases h)
  have hmeth' : T.vm.method? m = some meth := X.method'
  refine ⟨T.setFrames fs, ?_, .returned (some (.int 1)), hrun, hended, rfl, ⟨_, rfl⟩, hW, hframe⟩
  jvm_step X.here [X.here.top, hx, hb, hdg, hmeth', hr, ret, narrow_b1]
  (try refine ⟨rfl, ?_⟩); (try refine ⟨rfl, ?_⟩)
  first | (intro acts; rw [hret _ acts rfl rfl rfl]) | rw [hret _ _ rfl rfl rfl]
  exact Steps.refl _
/-- what holds at the law's entry: the machine, the code, the tables' words (any of lw_tbl by 'hts w (by decide +kernel)'), the script of L ints xs at the cell b, what the Statement gives of the start (any of its parts by flat_of_before) -/
def lw_At (p : Program) (s : State) (m : MethodId) (meth : Method) (c : Code) (b L : Nat) (xs : Nat → Int32) : Prop :=
  p.tables.exec = Jvm.exec ∧ c.code = code ∧ meth.sig.returnType = ret ∧ c.maxLocals = 4 ∧ s.vm.findClass R_law = some m.cls ∧ (∀ w ∈ lw_tbl, w.before #[Value.ref b] s = true) ∧ va_X b L xs s s.heap ∧ b < s.heap.size ∧ meth.locks = false ∧ (Jvm.Cond.and given_1 narrow_1).before #[Value.ref b] s = true
/-! THE LAW over the contracts: what it asks of the plain functions (op_..), each case, the loop. -/
def op_road (Rl : Hp → Hp → Prop) : Prop := ∀ (hx hm : Hp) (x1 : Int32) (x2 : Int32) (x3 : Int32), Rl hx hm → ∃ (r : Int32) (hx' : Hp) (hm' : Hp), f_X5_road x1 x2 x3 hx = some (r, hx') ∧ f_X6_road x1 x2 x3 hm = some (r, hm') ∧ Rl hx' hm'
def op_walker (Rl : Hp → Hp → Prop) : Prop := ∀ (hx hm : Hp) (x1 : Int32) (x2 : Int32) (x3 : Int32), Rl hx hm → (x3 = 0 ∨ x3 = 1) → ∃ (r : Int32) (hx' : Hp) (hm' : Hp), f_X5_walker x1 x2 x3 hx = some (r, hx') ∧ f_X6_walker x1 x2 x3 hm = some (r, hm') ∧ Rl hx' hm'
def op_say (Rl : Hp → Hp → Prop) : Prop := ∀ (hx hm : Hp) (x1 : Int32), Rl hx hm → ∃ (r : Int32) (hx' : Hp) (hm' : Hp), f_X5_say x1 hx = some (r, hx') ∧ f_X6_say x1 hm = some (r, hm') ∧ Rl hx' hm'
def op_wipe (Rl : Hp → Hp → Prop) : Prop := ∀ (hx hm : Hp) , Rl hx hm → ∃ (r : Int32) (hx' : Hp) (hm' : Hp), f_X5_wipe hx = some (r, hx') ∧ f_X6_wipe hm = some (r, hm') ∧ Rl hx' hm'
def op_fault (Rl : Hp → Hp → Prop) : Prop := ∀ (hx hm : Hp) , Rl hx hm → ∃ (r : Int32), f_X5_fault hx = some r ∧ f_X6_fault hm = some r ∧ Rl hx hm
def op_judge (Rl : Hp → Hp → Prop) : Prop := ∀ (hx hm : Hp) (x1 : Int32), Rl hx hm → ∃ (r : Int32) (hx' : Hp) (hm' : Hp), f_X5_judge x1 hx = some (r, hx') ∧ f_X6_judge x1 hm = some (r, hm') ∧ Rl hx' hm'
def op_done (Rl : Hp → Hp → Prop) : Prop := ∀ (hx hm : Hp) , Rl hx hm → ∃ (r : Int32) (hx' : Hp) (hm' : Hp), f_X5_done hx = some (r, hx') ∧ f_X6_done hm = some (r, hm') ∧ Rl hx' hm'
def op_behind (Rl : Hp → Hp → Prop) : Prop := ∀ (hx hm : Hp) (x1 : Int32) (x2 : Int32), Rl hx hm → ∃ (r : Int32) (hx' : Hp) (hm' : Hp), f_X5_behind x1 x2 hx = some (r, hx') ∧ f_X6_behind x1 x2 hm = some (r, hm') ∧ Rl hx' hm'
def op_goes (Rl : Hp → Hp → Prop) : Prop := ∀ (hx hm : Hp) (x1 : Int32) (x2 : Int32), Rl hx hm → ∃ (r : Int32) (hx' : Hp) (hm' : Hp), f_X5_goes x1 x2 hx = some (r, hx') ∧ f_X6_goes x1 x2 hm = some (r, hm') ∧ Rl hx' hm'
def op_then (Rl : Hp → Hp → Prop) : Prop := ∀ (hx hm : Hp) (x1 : Int32), Rl hx hm → ∃ (r : Int32) (hx' : Hp) (hm' : Hp), f_X5_then x1 hx = some (r, hx') ∧ f_X6_then x1 hm = some (r, hm') ∧ Rl hx' hm'
def op_way (Rl : Hp → Hp → Prop) : Prop := ∀ (hx hm : Hp) (x1 : Int32) (x2 : Int32) (x3 : Int32), Rl hx hm → ∃ (r : Int32) (hx' : Hp) (hm' : Hp), f_X5_way x1 x2 x3 hx = some (r, hx') ∧ f_X6_way x1 x2 x3 hm = some (r, hm') ∧ Rl hx' hm'
def op_parts (Rl : Hp → Hp → Prop) : Prop := ∀ (hx hm : Hp) (x1 : Int32), Rl hx hm → ∃ (r : Int32) (hm' : Hp), f_X5_parts x1 hx = some r ∧ f_X6_parts x1 hm = some (r, hm') ∧ Rl hx hm'
def op_strokes (Rl : Hp → Hp → Prop) : Prop := ∀ (hx hm : Hp) , Rl hx hm → ∃ (r : Int32) (hm' : Hp), f_X5_strokes hx = some r ∧ f_X6_strokes hm = some (r, hm') ∧ Rl hx hm'
def op_mended (Rl : Hp → Hp → Prop) : Prop := ∀ (hx hm : Hp) (x1 : Int32) (x2 : Int32) (x3 : Int32), Rl hx hm → ∃ (r : Int32) (hx' : Hp) (hm' : Hp), f_X5_mended x1 x2 x3 hx = some (r, hx') ∧ f_X6_mended x1 x2 x3 hm = some (r, hm') ∧ Rl hx' hm'
def op_pays (Rl : Hp → Hp → Prop) : Prop := ∀ (hx hm : Hp) (x1 : Int32) (x2 : Int32) (x3 : Int32) (x4 : Int32), Rl hx hm → ∃ (r : Int64) (hm' : Hp), f_X5_pays x1 x2 x3 x4 = some r ∧ f_X6_pays x1 x2 x3 x4 hm = some (r, hm') ∧ Rl hx hm'
def op_seen (Rl : Hp → Hp → Prop) : Prop := ∀ (hx hm : Hp) (x1 : Int32) (x2 : Int32) (x3 : Int32), Rl hx hm → (x1 = 0 ∨ x1 = 1) → ∃ (r : Int32) (hx' : Hp) (hm' : Hp), f_X5_seen x1 x2 x3 hx = some (r, hx') ∧ f_X6_seen x1 x2 x3 hm = some (r, hm') ∧ Rl hx' hm'
def op_forget (Rl : Hp → Hp → Prop) : Prop := ∀ (hx hm : Hp) , Rl hx hm → ∃ (r : Int32) (hx' : Hp) (hm' : Hp), f_X5_forget hx = some (r, hx') ∧ f_X6_forget hm = some (r, hm') ∧ Rl hx' hm'
def op_who (Rl : Hp → Hp → Prop) : Prop := ∀ (hx hm : Hp) (x1 : Int32), Rl hx hm → ∃ (r : Int32) (hx' : Hp), f_X5_who x1 hx = some (r, hx') ∧ f_X6_who x1 hm = some r ∧ Rl hx' hm
def op_ask (Rl : Hp → Hp → Prop) : Prop := ∀ (hx hm : Hp) (x1 : Int32), Rl hx hm → ∃ (r : Int32) (hx' : Hp) (hm' : Hp), f_X5_ask x1 hx = some (r, hx') ∧ f_X6_ask x1 hm = some (r, hm') ∧ Rl hx' hm'
def op_tacks (Rl : Hp → Hp → Prop) : Prop := ∀ (hx hm : Hp) (x1 : Int32) (x2 : Int32) (x3 : Int32), Rl hx hm → ∃ (r : Int32) (hx' : Hp) (hm' : Hp), f_X5_tacks x1 x2 x3 hx = some (r, hx') ∧ f_X6_tacks x1 x2 x3 hm = some (r, hm') ∧ Rl hx' hm'
def op_wet (Rl : Hp → Hp → Prop) : Prop := ∀ (hx hm : Hp) (x1 : Int32) (x2 : Int32) (x3 : Int32) (x4 : Int32) (x5 : Int32), Rl hx hm → ∃ (r : Int64) (hx' : Hp) (hm' : Hp), f_X5_wet x1 x2 x3 x4 x5 hx = some (r, hx') ∧ f_X6_wet x1 x2 x3 x4 x5 hm = some (r, hm') ∧ Rl hx' hm'
def op_year (Rl : Hp → Hp → Prop) : Prop := ∀ (hx hm : Hp) (x1 : Int32) (x2 : Int32) (x3 : Int32), Rl hx hm → ∃ (r : Int32) (hx' : Hp) (hm' : Hp), f_X5_year x1 x2 x3 hx = some (r, hx') ∧ f_X6_year x1 x2 x3 hm = some (r, hm') ∧ Rl hx' hm'
def op_image (Rl : Hp → Hp → Prop) : Prop := ∀ (hx hm : Hp) (x1 : Int32), Rl hx hm → ∃ (r : Int32) (hx' : Hp) (hm' : Hp), f_X5_image x1 hx = some (r, hx') ∧ f_X6_image x1 hm = some (r, hm') ∧ Rl hx' hm'
def op_restore (Rl : Hp → Hp → Prop) : Prop := ∀ (hx hm : Hp) (x1 : Int32), Rl hx hm → ∃ (r : Int32) (hx' : Hp) (hm' : Hp), f_X5_restore x1 hx = some (r, hx') ∧ f_X6_restore x1 hm = some (r, hm') ∧ Rl hx' hm'
def op_told (Rl : Hp → Hp → Prop) : Prop := ∀ (hx hm : Hp) (x1 : Int32), Rl hx hm → ∃ (r : Int32) (hm' : Hp), f_X5_told x1 hx = some r ∧ f_X6_told x1 hm = some (r, hm') ∧ Rl hx hm'
theorem lcmp_self (r : Int64) : lg_cmp r r = 0 := by
  unfold lg_cmp
  simp
section LAWR
variable {p : Program} {l : Launch} {e : Env} {R : Room} {s : State} {m : MethodId} {args : Array Value} {below : List Frame} {meth : Method} {c : Code} {cells slots : Nat} {Z : State → Prop} {o : Om} {emb : Hp → va_W} {A : Nat → Prop} {H0 : Heap} {nL pc : Nat} {lo : List (Nat × Value)} {st : List Value} {h : Hp} {own : String} {cc : ByteArray} {rt : Option FieldType}
theorem J_sld (X : Cx p s m args meth c own cc nL rt o) {b L : Nat} {xs : Nat → Int32} (hX : va_X b L xs s H0) (hbl : b < H0.size) (hbA : ¬ A b) {i : Int32} (hin : vp_in i L) (hd : decode cc pc = .ok (.iaload, 1)) (k : J p l e R s m args below meth c cells slots Z o emb A H0 nL (pc + 1) lo (.int (xs i.toNatClampNeg) :: st) h) : J p l e R s m args below meth c cells slots Z o emb A H0 nL pc lo (.int i :: .ref b :: st) h :=
  fun H locs ls hm hl => va_sld X.1 X.2.1 hX hbl hbA hm.2.1 hin hd (k H locs ls hm hl)
theorem J_slen (X : Cx p s m args meth c own cc nL rt o) {b L : Nat} {xs : Nat → Int32} (hX : va_X b L xs s H0) (hbl : b < H0.size) (hbA : ¬ A b) (hd : decode cc pc = .ok (.arraylength, 1)) (k : J p l e R s m args below meth c cells slots Z o emb A H0 nL (pc + 1) lo (.int (nI L) :: st) h) : J p l e R s m args below meth c cells slots Z o emb A H0 nL pc lo (.ref b :: st) h :=
  fun H locs ls hm hl => va_slen X.1 X.2.1 hX hbl hbA hm.2.1 hd (k H locs ls hm hl)
end LAWR
section LAW
variable {p : Program} {l : Launch} {e : Env} {s : State} {m : MethodId} {below : List Frame} {meth : Method} {c : Code} {b L : Nat} {xs : Nat → Int32} {adX adM : Nat → Nat} {d : va_G × ClassId × ClassId × ClassId}
set_option maxHeartbeats 4000000 in
set_option maxRecDepth 100000 in
theorem law_c0 {Rl : Hp → Hp → Prop} (H9 : op_road Rl) (X : Cx p s m #[Value.ref b] meth c RL cL_law 4 ret (adX, d)) (hS : va_X b L xs s s.heap) (hbl : b < s.heap.size) (hL : L ≤ 384) (i : Nat) (hi : i + 6 ≤ L) (hx hm : Hp) (hr : Rl hx hm) (K : ∀ hx hm, Rl hx hm → J p l e room_1 s m #[Value.ref b] below meth c 55 4744 (lw_Z below #[Value.ref b] s) (adX, d) (fun h => wX (adX, d) h ++ wM (adM, d) hm) (fun q => s.heap.size ≤ q) s.heap 4 937 [(0, .ref b), (1, .ref (adX 0)), (2, .ref (adM 0)), (3, .int (nI i))] [] hx) : J p l e room_1 s m #[Value.ref b] below meth c 55 4744 (lw_Z below #[Value.ref b] s) (adX, d) (fun h => wX (adX, d) h ++ wM (adM, d) hm) (fun q => s.heap.size ≤ q) s.heap 4 148 [(0, .ref b), (1, .ref (adX 0)), (2, .ref (adM 0)), (3, .int (nI i))] [] hx := by
  have XM : Cx p s m #[Value.ref b] meth c RL cL_law 4 ret (adM, d) := X
  obtain ⟨r, hx', hm', hr1, hr2, hr3⟩ := H9 hx hm (xs (i + 1)) (xs (i + 2)) (xs (i + 3)) hr
  refine J_aload_n X 1 dL_law_148 rfl rfl ?_
  refine J_aload_n X 0 dL_law_149 rfl rfl ?_
  refine J_iload_n X 3 dL_law_150 rfl rfl ?_
  refine J_const X (1 : Int32) dL_law_151 (by decide) ?_
  refine J_iadd X dL_law_152 ?_
  refine J_topi (nI (i + 1)) (nI_add i 1) ?_
  refine J_sld X hS hbl (Nat.not_le.mpr hbl) (vp_in_nI (show i + 1 < L by omega) (by omega)) dL_law_153 ?_
  refine J_topi (xs (i + 1)) (congrArg xs (nI_clamp (show i + 1 < 2 ^ 31 by omega))) ?_
  refine J_aload_n X 0 dL_law_154 rfl rfl ?_
  refine J_iload_n X 3 dL_law_155 rfl rfl ?_
  refine J_const X (2 : Int32) dL_law_156 (by decide) ?_
  refine J_iadd X dL_law_157 ?_
  refine J_topi (nI (i + 2)) (nI_add i 2) ?_
  refine J_sld X hS hbl (Nat.not_le.mpr hbl) (vp_in_nI (show i + 2 < L by omega) (by omega)) dL_law_158 ?_
  refine J_topi (xs (i + 2)) (congrArg xs (nI_clamp (show i + 2 < 2 ^ 31 by omega))) ?_
  refine J_aload_n X 0 dL_law_159 rfl rfl ?_
  refine J_iload_n X 3 dL_law_160 rfl rfl ?_
  refine J_const X (3 : Int32) dL_law_161 (by decide) ?_
  refine J_iadd X dL_law_162 ?_
  refine J_topi (nI (i + 3)) (nI_add i 3) ?_
  refine J_sld X hS hbl (Nat.not_le.mpr hbl) (vp_in_nI (show i + 3 < L by omega) (by omega)) dL_law_163 ?_
  refine J_topi (xs (i + 3)) (congrArg xs (nI_clamp (show i + 3 < 2 ^ 31 by omega))) ?_
  refine J_mem (fun hA1 => ?_)
  refine J_callV X (rest := []) (rs := [.int r]) (c_X5_road l (adX, d) (fun h => wX (adX, d) h ++ wM (adM, d) hm) (fun q => s.heap.size ≤ q) hA1 (isX_w (adX, d) (wM (adM, d) hm)) (xs (i + 1)) (xs (i + 2)) (xs (i + 3)) hx r hx' hr1) (isX_w (adX, d) (wM (adM, d) hm)).1 rfl rfl wd_209 wd_210 wd_211 wd_34 wd_212 hd_X5_road ⟨(Nat.le_of_ble_eq_true rfl), (Nat.le_of_ble_eq_true rfl)⟩ ⟨Nat.le_refl _, Nat.le_refl _⟩ (Nat.le_of_ble_eq_true rfl) dL_law_164 rfl rfl ?_
  refine J_sw (o2 := (adM, d)) (emb2 := (fun h => wX (adX, d) hx' ++ wM (adM, d) h)) (h2 := hm) rfl rfl (fun hd _ => va_D_fst (by simp [wM]) hd) ?_
  refine J_aload_n XM 2 dL_law_167 rfl rfl ?_
  refine J_aload_n XM 0 dL_law_168 rfl rfl ?_
  refine J_iload_n XM 3 dL_law_169 rfl rfl ?_
  refine J_const XM (1 : Int32) dL_law_170 (by decide) ?_
  refine J_iadd XM dL_law_171 ?_
  refine J_topi (nI (i + 1)) (nI_add i 1) ?_
  refine J_sld XM hS hbl (Nat.not_le.mpr hbl) (vp_in_nI (show i + 1 < L by omega) (by omega)) dL_law_172 ?_
  refine J_topi (xs (i + 1)) (congrArg xs (nI_clamp (show i + 1 < 2 ^ 31 by omega))) ?_
  refine J_aload_n XM 0 dL_law_173 rfl rfl ?_
  refine J_iload_n XM 3 dL_law_174 rfl rfl ?_
  refine J_const XM (2 : Int32) dL_law_175 (by decide) ?_
  refine J_iadd XM dL_law_176 ?_
  refine J_topi (nI (i + 2)) (nI_add i 2) ?_
  refine J_sld XM hS hbl (Nat.not_le.mpr hbl) (vp_in_nI (show i + 2 < L by omega) (by omega)) dL_law_177 ?_
  refine J_topi (xs (i + 2)) (congrArg xs (nI_clamp (show i + 2 < 2 ^ 31 by omega))) ?_
  refine J_aload_n XM 0 dL_law_178 rfl rfl ?_
  refine J_iload_n XM 3 dL_law_179 rfl rfl ?_
  refine J_const XM (3 : Int32) dL_law_180 (by decide) ?_
  refine J_iadd XM dL_law_181 ?_
  refine J_topi (nI (i + 3)) (nI_add i 3) ?_
  refine J_sld XM hS hbl (Nat.not_le.mpr hbl) (vp_in_nI (show i + 3 < L by omega) (by omega)) dL_law_182 ?_
  refine J_topi (xs (i + 3)) (congrArg xs (nI_clamp (show i + 3 < 2 ^ 31 by omega))) ?_
  refine J_mem (fun hA2 => ?_)
  refine J_callV XM (rest := [.int r]) (rs := [.int r, .int r]) (c_X6_road l (adM, d) (fun h => wX (adX, d) hx' ++ wM (adM, d) h) (fun q => s.heap.size ≤ q) hA2 (isM_w (adM, d) (wX (adX, d) hx')) (xs (i + 1)) (xs (i + 2)) (xs (i + 3)) hm r hm' hr2) (isM_w (adM, d) (wX (adX, d) hx')).1 rfl rfl wd_653 wd_654 wd_655 wd_41 wd_656 hd_X6_road ⟨(Nat.le_of_ble_eq_true rfl), (Nat.le_of_ble_eq_true rfl)⟩ ⟨Nat.le_refl _, Nat.le_refl _⟩ (Nat.le_of_ble_eq_true rfl) dL_law_183 rfl rfl ?_
  refine J_sw (o2 := (adX, d)) (emb2 := (fun h => wX (adX, d) h ++ wM (adM, d) hm')) (h2 := hx') rfl rfl (fun hd _ => va_D_fst (by simp [wX]) hd) ?_
  refine J_icmp_eq (tgt := 937) X dL_law_186 (by decide) (fun _ => ?_) (fun c9 => absurd rfl c9)
  exact K _ _ hr3
set_option maxHeartbeats 4000000 in
set_option maxRecDepth 100000 in
theorem law_c1 {Rl : Hp → Hp → Prop} (H9 : op_walker Rl) (X : Cx p s m #[Value.ref b] meth c RL cL_law 4 ret (adX, d)) (hS : va_X b L xs s s.heap) (hbl : b < s.heap.size) (hL : L ≤ 384) (i : Nat) (hi : i + 6 ≤ L) (hx hm : Hp) (hr : Rl hx hm) (K : ∀ hx hm, Rl hx hm → J p l e room_1 s m #[Value.ref b] below meth c 55 4744 (lw_Z below #[Value.ref b] s) (adX, d) (fun h => wX (adX, d) h ++ wM (adM, d) hm) (fun q => s.heap.size ≤ q) s.heap 4 937 [(0, .ref b), (1, .ref (adX 0)), (2, .ref (adM 0)), (3, .int (nI i))] [] hx) : J p l e room_1 s m #[Value.ref b] below meth c 55 4744 (lw_Z below #[Value.ref b] s) (adX, d) (fun h => wX (adX, d) h ++ wM (adM, d) hm) (fun q => s.heap.size ≤ q) s.heap 4 191 [(0, .ref b), (1, .ref (adX 0)), (2, .ref (adM 0)), (3, .int (nI i))] [] hx := by
  have XM : Cx p s m #[Value.ref b] meth c RL cL_law 4 ret (adM, d) := X
  by_cases hz : xs (i + 3) = 0
  · obtain ⟨r, hx', hm', hr1, hr2, hr3⟩ := H9 hx hm (xs (i + 1)) (xs (i + 2)) ((0 : Int32)) hr (Or.inl rfl)
    refine J_aload_n X 1 dL_law_191 rfl rfl ?_
    refine J_aload_n X 0 dL_law_192 rfl rfl ?_
    refine J_iload_n X 3 dL_law_193 rfl rfl ?_
    refine J_const X (1 : Int32) dL_law_194 (by decide) ?_
    refine J_iadd X dL_law_195 ?_
    refine J_topi (nI (i + 1)) (nI_add i 1) ?_
    refine J_sld X hS hbl (Nat.not_le.mpr hbl) (vp_in_nI (show i + 1 < L by omega) (by omega)) dL_law_196 ?_
    refine J_topi (xs (i + 1)) (congrArg xs (nI_clamp (show i + 1 < 2 ^ 31 by omega))) ?_
    refine J_aload_n X 0 dL_law_197 rfl rfl ?_
    refine J_iload_n X 3 dL_law_198 rfl rfl ?_
    refine J_const X (2 : Int32) dL_law_199 (by decide) ?_
    refine J_iadd X dL_law_200 ?_
    refine J_topi (nI (i + 2)) (nI_add i 2) ?_
    refine J_sld X hS hbl (Nat.not_le.mpr hbl) (vp_in_nI (show i + 2 < L by omega) (by omega)) dL_law_201 ?_
    refine J_topi (xs (i + 2)) (congrArg xs (nI_clamp (show i + 2 < 2 ^ 31 by omega))) ?_
    refine J_aload_n X 0 dL_law_202 rfl rfl ?_
    refine J_iload_n X 3 dL_law_203 rfl rfl ?_
    refine J_const X (3 : Int32) dL_law_204 (by decide) ?_
    refine J_iadd X dL_law_205 ?_
    refine J_topi (nI (i + 3)) (nI_add i 3) ?_
    refine J_sld X hS hbl (Nat.not_le.mpr hbl) (vp_in_nI (show i + 3 < L by omega) (by omega)) dL_law_206 ?_
    refine J_topi (xs (i + 3)) (congrArg xs (nI_clamp (show i + 3 < 2 ^ 31 by omega))) ?_
    refine J_if_eq (tgt := 214) X dL_law_207 (by decide) (fun _ => ?_) (fun c9 => absurd hz c9)
    refine J_const X (0 : Int32) dL_law_214 (by decide) ?_
    refine J_mem (fun hA1 => ?_)
    refine J_callV X (rest := []) (rs := [.int r]) (c_X5_walker l (adX, d) (fun h => wX (adX, d) h ++ wM (adM, d) hm) (fun q => s.heap.size ≤ q) hA1 (isX_w (adX, d) (wM (adM, d) hm)) (xs (i + 1)) (xs (i + 2)) ((0 : Int32)) hx r hx' hr1) (isX_w (adX, d) (wM (adM, d) hm)).1 rfl rfl wd_231 wd_232 wd_233 wd_34 wd_234 hd_X5_walker ⟨(Nat.le_of_ble_eq_true rfl), (Nat.le_of_ble_eq_true rfl)⟩ ⟨Nat.le_refl _, Nat.le_refl _⟩ (Nat.le_of_ble_eq_true rfl) dL_law_215 rfl rfl ?_
    refine J_sw (o2 := (adM, d)) (emb2 := (fun h => wX (adX, d) hx' ++ wM (adM, d) h)) (h2 := hm) rfl rfl (fun hd _ => va_D_fst (by simp [wM]) hd) ?_
    refine J_aload_n XM 2 dL_law_218 rfl rfl ?_
    refine J_aload_n XM 0 dL_law_219 rfl rfl ?_
    refine J_iload_n XM 3 dL_law_220 rfl rfl ?_
    refine J_const XM (1 : Int32) dL_law_221 (by decide) ?_
    refine J_iadd XM dL_law_222 ?_
    refine J_topi (nI (i + 1)) (nI_add i 1) ?_
    refine J_sld XM hS hbl (Nat.not_le.mpr hbl) (vp_in_nI (show i + 1 < L by omega) (by omega)) dL_law_223 ?_
    refine J_topi (xs (i + 1)) (congrArg xs (nI_clamp (show i + 1 < 2 ^ 31 by omega))) ?_
    refine J_aload_n XM 0 dL_law_224 rfl rfl ?_
    refine J_iload_n XM 3 dL_law_225 rfl rfl ?_
    refine J_const XM (2 : Int32) dL_law_226 (by decide) ?_
    refine J_iadd XM dL_law_227 ?_
    refine J_topi (nI (i + 2)) (nI_add i 2) ?_
    refine J_sld XM hS hbl (Nat.not_le.mpr hbl) (vp_in_nI (show i + 2 < L by omega) (by omega)) dL_law_228 ?_
    refine J_topi (xs (i + 2)) (congrArg xs (nI_clamp (show i + 2 < 2 ^ 31 by omega))) ?_
    refine J_aload_n XM 0 dL_law_229 rfl rfl ?_
    refine J_iload_n XM 3 dL_law_230 rfl rfl ?_
    refine J_const XM (3 : Int32) dL_law_231 (by decide) ?_
    refine J_iadd XM dL_law_232 ?_
    refine J_topi (nI (i + 3)) (nI_add i 3) ?_
    refine J_sld XM hS hbl (Nat.not_le.mpr hbl) (vp_in_nI (show i + 3 < L by omega) (by omega)) dL_law_233 ?_
    refine J_topi (xs (i + 3)) (congrArg xs (nI_clamp (show i + 3 < 2 ^ 31 by omega))) ?_
    refine J_if_eq (tgt := 241) XM dL_law_234 (by decide) (fun _ => ?_) (fun c9 => absurd hz c9)
    refine J_const XM (0 : Int32) dL_law_241 (by decide) ?_
    refine J_mem (fun hA2 => ?_)
    refine J_callV XM (rest := [.int r]) (rs := [.int r, .int r]) (c_X6_walker l (adM, d) (fun h => wX (adX, d) hx' ++ wM (adM, d) h) (fun q => s.heap.size ≤ q) hA2 (isM_w (adM, d) (wX (adX, d) hx')) (xs (i + 1)) (xs (i + 2)) ((0 : Int32)) hm r hm' hr2) (isM_w (adM, d) (wX (adX, d) hx')).1 rfl rfl wd_671 wd_672 wd_673 wd_41 wd_674 hd_X6_walker ⟨(Nat.le_of_ble_eq_true rfl), (Nat.le_of_ble_eq_true rfl)⟩ ⟨Nat.le_refl _, Nat.le_refl _⟩ (Nat.le_of_ble_eq_true rfl) dL_law_242 rfl rfl ?_
    refine J_sw (o2 := (adX, d)) (emb2 := (fun h => wX (adX, d) h ++ wM (adM, d) hm')) (h2 := hx') rfl rfl (fun hd _ => va_D_fst (by simp [wX]) hd) ?_
    refine J_icmp_eq (tgt := 937) X dL_law_245 (by decide) (fun _ => ?_) (fun c9 => absurd rfl c9)
    exact K _ _ hr3
  · obtain ⟨r, hx', hm', hr1, hr2, hr3⟩ := H9 hx hm (xs (i + 1)) (xs (i + 2)) ((1 : Int32)) hr (Or.inr rfl)
    refine J_aload_n X 1 dL_law_191 rfl rfl ?_
    refine J_aload_n X 0 dL_law_192 rfl rfl ?_
    refine J_iload_n X 3 dL_law_193 rfl rfl ?_
    refine J_const X (1 : Int32) dL_law_194 (by decide) ?_
    refine J_iadd X dL_law_195 ?_
    refine J_topi (nI (i + 1)) (nI_add i 1) ?_
    refine J_sld X hS hbl (Nat.not_le.mpr hbl) (vp_in_nI (show i + 1 < L by omega) (by omega)) dL_law_196 ?_
    refine J_topi (xs (i + 1)) (congrArg xs (nI_clamp (show i + 1 < 2 ^ 31 by omega))) ?_
    refine J_aload_n X 0 dL_law_197 rfl rfl ?_
    refine J_iload_n X 3 dL_law_198 rfl rfl ?_
    refine J_const X (2 : Int32) dL_law_199 (by decide) ?_
    refine J_iadd X dL_law_200 ?_
    refine J_topi (nI (i + 2)) (nI_add i 2) ?_
    refine J_sld X hS hbl (Nat.not_le.mpr hbl) (vp_in_nI (show i + 2 < L by omega) (by omega)) dL_law_201 ?_
    refine J_topi (xs (i + 2)) (congrArg xs (nI_clamp (show i + 2 < 2 ^ 31 by omega))) ?_
    refine J_aload_n X 0 dL_law_202 rfl rfl ?_
    refine J_iload_n X 3 dL_law_203 rfl rfl ?_
    refine J_const X (3 : Int32) dL_law_204 (by decide) ?_
    refine J_iadd X dL_law_205 ?_
    refine J_topi (nI (i + 3)) (nI_add i 3) ?_
    refine J_sld X hS hbl (Nat.not_le.mpr hbl) (vp_in_nI (show i + 3 < L by omega) (by omega)) dL_law_206 ?_
    refine J_topi (xs (i + 3)) (congrArg xs (nI_clamp (show i + 3 < 2 ^ 31 by omega))) ?_
    refine J_if_eq (tgt := 214) X dL_law_207 (by decide) (fun c9 => absurd c9 hz) (fun _ => ?_)
    refine J_const X (1 : Int32) dL_law_210 (by decide) ?_
    refine J_goto (tgt := 215) X dL_law_211 (by decide) ?_
    refine J_mem (fun hA1 => ?_)
    refine J_callV X (rest := []) (rs := [.int r]) (c_X5_walker l (adX, d) (fun h => wX (adX, d) h ++ wM (adM, d) hm) (fun q => s.heap.size ≤ q) hA1 (isX_w (adX, d) (wM (adM, d) hm)) (xs (i + 1)) (xs (i + 2)) ((1 : Int32)) hx r hx' hr1) (isX_w (adX, d) (wM (adM, d) hm)).1 rfl rfl wd_231 wd_232 wd_233 wd_34 wd_234 hd_X5_walker ⟨(Nat.le_of_ble_eq_true rfl), (Nat.le_of_ble_eq_true rfl)⟩ ⟨Nat.le_refl _, Nat.le_refl _⟩ (Nat.le_of_ble_eq_true rfl) dL_law_215 rfl rfl ?_
    refine J_sw (o2 := (adM, d)) (emb2 := (fun h => wX (adX, d) hx' ++ wM (adM, d) h)) (h2 := hm) rfl rfl (fun hd _ => va_D_fst (by simp [wM]) hd) ?_
    refine J_aload_n XM 2 dL_law_218 rfl rfl ?_
    refine J_aload_n XM 0 dL_law_219 rfl rfl ?_
    refine J_iload_n XM 3 dL_law_220 rfl rfl ?_
    refine J_const XM (1 : Int32) dL_law_221 (by decide) ?_
    refine J_iadd XM dL_law_222 ?_
    refine J_topi (nI (i + 1)) (nI_add i 1) ?_
    refine J_sld XM hS hbl (Nat.not_le.mpr hbl) (vp_in_nI (show i + 1 < L by omega) (by omega)) dL_law_223 ?_
    refine J_topi (xs (i + 1)) (congrArg xs (nI_clamp (show i + 1 < 2 ^ 31 by omega))) ?_
    refine J_aload_n XM 0 dL_law_224 rfl rfl ?_
    refine J_iload_n XM 3 dL_law_225 rfl rfl ?_
    refine J_const XM (2 : Int32) dL_law_226 (by decide) ?_
    refine J_iadd XM dL_law_227 ?_
    refine J_topi (nI (i + 2)) (nI_add i 2) ?_
    refine J_sld XM hS hbl (Nat.not_le.mpr hbl) (vp_in_nI (show i + 2 < L by omega) (by omega)) dL_law_228 ?_
    refine J_topi (xs (i + 2)) (congrArg xs (nI_clamp (show i + 2 < 2 ^ 31 by omega))) ?_
    refine J_aload_n XM 0 dL_law_229 rfl rfl ?_
    refine J_iload_n XM 3 dL_law_230 rfl rfl ?_
    refine J_const XM (3 : Int32) dL_law_231 (by decide) ?_
    refine J_iadd XM dL_law_232 ?_
    refine J_topi (nI (i + 3)) (nI_add i 3) ?_
    refine J_sld XM hS hbl (Nat.not_le.mpr hbl) (vp_in_nI (show i + 3 < L by omega) (by omega)) dL_law_233 ?_
    refine J_topi (xs (i + 3)) (congrArg xs (nI_clamp (show i + 3 < 2 ^ 31 by omega))) ?_
    refine J_if_eq (tgt := 241) XM dL_law_234 (by decide) (fun c9 => absurd c9 hz) (fun _ => ?_)
    refine J_const XM (1 : Int32) dL_law_237 (by decide) ?_
    refine J_goto (tgt := 242) XM dL_law_238 (by decide) ?_
    refine J_mem (fun hA2 => ?_)
    refine J_callV XM (rest := [.int r]) (rs := [.int r, .int r]) (c_X6_walker l (adM, d) (fun h => wX (adX, d) hx' ++ wM (adM, d) h) (fun q => s.heap.size ≤ q) hA2 (isM_w (adM, d) (wX (adX, d) hx')) (xs (i + 1)) (xs (i + 2)) ((1 : Int32)) hm r hm' hr2) (isM_w (adM, d) (wX (adX, d) hx')).1 rfl rfl wd_671 wd_672 wd_673 wd_41 wd_674 hd_X6_walker ⟨(Nat.le_of_ble_eq_true rfl), (Nat.le_of_ble_eq_true rfl)⟩ ⟨Nat.le_refl _, Nat.le_refl _⟩ (Nat.le_of_ble_eq_true rfl) dL_law_242 rfl rfl ?_
    refine J_sw (o2 := (adX, d)) (emb2 := (fun h => wX (adX, d) h ++ wM (adM, d) hm')) (h2 := hx') rfl rfl (fun hd _ => va_D_fst (by simp [wX]) hd) ?_
    refine J_icmp_eq (tgt := 937) X dL_law_245 (by decide) (fun _ => ?_) (fun c9 => absurd rfl c9)
    exact K _ _ hr3
set_option maxHeartbeats 4000000 in
set_option maxRecDepth 100000 in
theorem law_c2 {Rl : Hp → Hp → Prop} (H9 : op_say Rl) (X : Cx p s m #[Value.ref b] meth c RL cL_law 4 ret (adX, d)) (hS : va_X b L xs s s.heap) (hbl : b < s.heap.size) (hL : L ≤ 384) (i : Nat) (hi : i + 6 ≤ L) (hx hm : Hp) (hr : Rl hx hm) (K : ∀ hx hm, Rl hx hm → J p l e room_1 s m #[Value.ref b] below meth c 55 4744 (lw_Z below #[Value.ref b] s) (adX, d) (fun h => wX (adX, d) h ++ wM (adM, d) hm) (fun q => s.heap.size ≤ q) s.heap 4 937 [(0, .ref b), (1, .ref (adX 0)), (2, .ref (adM 0)), (3, .int (nI i))] [] hx) : J p l e room_1 s m #[Value.ref b] below meth c 55 4744 (lw_Z below #[Value.ref b] s) (adX, d) (fun h => wX (adX, d) h ++ wM (adM, d) hm) (fun q => s.heap.size ≤ q) s.heap 4 250 [(0, .ref b), (1, .ref (adX 0)), (2, .ref (adM 0)), (3, .int (nI i))] [] hx := by
  have XM : Cx p s m #[Value.ref b] meth c RL cL_law 4 ret (adM, d) := X
  obtain ⟨r, hx', hm', hr1, hr2, hr3⟩ := H9 hx hm (xs (i + 1)) hr
  refine J_aload_n X 1 dL_law_250 rfl rfl ?_
  refine J_aload_n X 0 dL_law_251 rfl rfl ?_
  refine J_iload_n X 3 dL_law_252 rfl rfl ?_
  refine J_const X (1 : Int32) dL_law_253 (by decide) ?_
  refine J_iadd X dL_law_254 ?_
  refine J_topi (nI (i + 1)) (nI_add i 1) ?_
  refine J_sld X hS hbl (Nat.not_le.mpr hbl) (vp_in_nI (show i + 1 < L by omega) (by omega)) dL_law_255 ?_
  refine J_topi (xs (i + 1)) (congrArg xs (nI_clamp (show i + 1 < 2 ^ 31 by omega))) ?_
  refine J_mem (fun hA1 => ?_)
  refine J_callV X (rest := []) (rs := [.int r]) (c_X5_say l (adX, d) (fun h => wX (adX, d) h ++ wM (adM, d) hm) (fun q => s.heap.size ≤ q) hA1 (isX_w (adX, d) (wM (adM, d) hm)) (xs (i + 1)) hx r hx' hr1) (isX_w (adX, d) (wM (adM, d) hm)).1 rfl rfl wd_263 wd_264 wd_265 wd_34 wd_266 hd_X5_say ⟨(Nat.le_of_ble_eq_true rfl), (Nat.le_of_ble_eq_true rfl)⟩ ⟨Nat.le_refl _, Nat.le_refl _⟩ (Nat.le_of_ble_eq_true rfl) dL_law_256 rfl rfl ?_
  refine J_sw (o2 := (adM, d)) (emb2 := (fun h => wX (adX, d) hx' ++ wM (adM, d) h)) (h2 := hm) rfl rfl (fun hd _ => va_D_fst (by simp [wM]) hd) ?_
  refine J_aload_n XM 2 dL_law_259 rfl rfl ?_
  refine J_aload_n XM 0 dL_law_260 rfl rfl ?_
  refine J_iload_n XM 3 dL_law_261 rfl rfl ?_
  refine J_const XM (1 : Int32) dL_law_262 (by decide) ?_
  refine J_iadd XM dL_law_263 ?_
  refine J_topi (nI (i + 1)) (nI_add i 1) ?_
  refine J_sld XM hS hbl (Nat.not_le.mpr hbl) (vp_in_nI (show i + 1 < L by omega) (by omega)) dL_law_264 ?_
  refine J_topi (xs (i + 1)) (congrArg xs (nI_clamp (show i + 1 < 2 ^ 31 by omega))) ?_
  refine J_mem (fun hA2 => ?_)
  refine J_callV XM (rest := [.int r]) (rs := [.int r, .int r]) (c_X6_say l (adM, d) (fun h => wX (adX, d) hx' ++ wM (adM, d) h) (fun q => s.heap.size ≤ q) hA2 (isM_w (adM, d) (wX (adX, d) hx')) (xs (i + 1)) hm r hm' hr2) (isM_w (adM, d) (wX (adX, d) hx')).1 rfl rfl wd_678 wd_679 wd_680 wd_41 wd_681 hd_X6_say ⟨(Nat.le_of_ble_eq_true rfl), (Nat.le_of_ble_eq_true rfl)⟩ ⟨Nat.le_refl _, Nat.le_refl _⟩ (Nat.le_of_ble_eq_true rfl) dL_law_265 rfl rfl ?_
  refine J_sw (o2 := (adX, d)) (emb2 := (fun h => wX (adX, d) h ++ wM (adM, d) hm')) (h2 := hx') rfl rfl (fun hd _ => va_D_fst (by simp [wX]) hd) ?_
  refine J_icmp_eq (tgt := 937) X dL_law_268 (by decide) (fun _ => ?_) (fun c9 => absurd rfl c9)
  exact K _ _ hr3
set_option maxHeartbeats 4000000 in
set_option maxRecDepth 100000 in
theorem law_c3 {Rl : Hp → Hp → Prop} (H9 : op_wipe Rl) (X : Cx p s m #[Value.ref b] meth c RL cL_law 4 ret (adX, d)) (hS : va_X b L xs s s.heap) (hbl : b < s.heap.size) (hL : L ≤ 384) (i : Nat) (hi : i + 6 ≤ L) (hx hm : Hp) (hr : Rl hx hm) (K : ∀ hx hm, Rl hx hm → J p l e room_1 s m #[Value.ref b] below meth c 55 4744 (lw_Z below #[Value.ref b] s) (adX, d) (fun h => wX (adX, d) h ++ wM (adM, d) hm) (fun q => s.heap.size ≤ q) s.heap 4 937 [(0, .ref b), (1, .ref (adX 0)), (2, .ref (adM 0)), (3, .int (nI i))] [] hx) : J p l e room_1 s m #[Value.ref b] below meth c 55 4744 (lw_Z below #[Value.ref b] s) (adX, d) (fun h => wX (adX, d) h ++ wM (adM, d) hm) (fun q => s.heap.size ≤ q) s.heap 4 273 [(0, .ref b), (1, .ref (adX 0)), (2, .ref (adM 0)), (3, .int (nI i))] [] hx := by
  have XM : Cx p s m #[Value.ref b] meth c RL cL_law 4 ret (adM, d) := X
  obtain ⟨r, hx', hm', hr1, hr2, hr3⟩ := H9 hx hm  hr
  refine J_aload_n X 1 dL_law_273 rfl rfl ?_
  refine J_mem (fun hA1 => ?_)
  refine J_callV X (rest := []) (rs := [.int r]) (c_X5_wipe l (adX, d) (fun h => wX (adX, d) h ++ wM (adM, d) hm) (fun q => s.heap.size ≤ q) hA1 (isX_w (adX, d) (wM (adM, d) hm))  hx r hx' hr1) (isX_w (adX, d) (wM (adM, d) hm)).1 rfl rfl wd_272 wd_273 wd_274 wd_34 wd_275 hd_X5_wipe ⟨(Nat.le_of_ble_eq_true rfl), (Nat.le_of_ble_eq_true rfl)⟩ ⟨Nat.le_refl _, Nat.le_refl _⟩ (Nat.le_of_ble_eq_true rfl) dL_law_274 rfl rfl ?_
  refine J_sw (o2 := (adM, d)) (emb2 := (fun h => wX (adX, d) hx' ++ wM (adM, d) h)) (h2 := hm) rfl rfl (fun hd _ => va_D_fst (by simp [wM]) hd) ?_
  refine J_aload_n XM 2 dL_law_277 rfl rfl ?_
  refine J_mem (fun hA2 => ?_)
  refine J_callV XM (rest := [.int r]) (rs := [.int r, .int r]) (c_X6_wipe l (adM, d) (fun h => wX (adX, d) hx' ++ wM (adM, d) h) (fun q => s.heap.size ≤ q) hA2 (isM_w (adM, d) (wX (adX, d) hx'))  hm r hm' hr2) (isM_w (adM, d) (wX (adX, d) hx')).1 rfl rfl wd_682 wd_683 wd_684 wd_41 wd_685 hd_X6_wipe ⟨(Nat.le_of_ble_eq_true rfl), (Nat.le_of_ble_eq_true rfl)⟩ ⟨Nat.le_refl _, Nat.le_refl _⟩ (Nat.le_of_ble_eq_true rfl) dL_law_278 rfl rfl ?_
  refine J_sw (o2 := (adX, d)) (emb2 := (fun h => wX (adX, d) h ++ wM (adM, d) hm')) (h2 := hx') rfl rfl (fun hd _ => va_D_fst (by simp [wX]) hd) ?_
  refine J_icmp_eq (tgt := 937) X dL_law_281 (by decide) (fun _ => ?_) (fun c9 => absurd rfl c9)
  exact K _ _ hr3
set_option maxHeartbeats 4000000 in
set_option maxRecDepth 100000 in
theorem law_c4 {Rl : Hp → Hp → Prop} (H9 : op_fault Rl) (X : Cx p s m #[Value.ref b] meth c RL cL_law 4 ret (adX, d)) (hS : va_X b L xs s s.heap) (hbl : b < s.heap.size) (hL : L ≤ 384) (i : Nat) (hi : i + 6 ≤ L) (hx hm : Hp) (hr : Rl hx hm) (K : ∀ hx hm, Rl hx hm → J p l e room_1 s m #[Value.ref b] below meth c 55 4744 (lw_Z below #[Value.ref b] s) (adX, d) (fun h => wX (adX, d) h ++ wM (adM, d) hm) (fun q => s.heap.size ≤ q) s.heap 4 937 [(0, .ref b), (1, .ref (adX 0)), (2, .ref (adM 0)), (3, .int (nI i))] [] hx) : J p l e room_1 s m #[Value.ref b] below meth c 55 4744 (lw_Z below #[Value.ref b] s) (adX, d) (fun h => wX (adX, d) h ++ wM (adM, d) hm) (fun q => s.heap.size ≤ q) s.heap 4 286 [(0, .ref b), (1, .ref (adX 0)), (2, .ref (adM 0)), (3, .int (nI i))] [] hx := by
  have XM : Cx p s m #[Value.ref b] meth c RL cL_law 4 ret (adM, d) := X
  obtain ⟨r, hr1, hr2, hr3⟩ := H9 hx hm  hr
  refine J_aload_n X 1 dL_law_286 rfl rfl ?_
  refine J_mem (fun hA1 => ?_)
  refine J_callV X (rest := []) (rs := [.int r]) (c_X5_fault l (adX, d) (fun h => wX (adX, d) h ++ wM (adM, d) hm) (fun q => s.heap.size ≤ q) hA1 (isX_w (adX, d) (wM (adM, d) hm))  hx r hr1) (isX_w (adX, d) (wM (adM, d) hm)).1 rfl rfl wd_280 wd_281 wd_282 wd_34 wd_283 hd_X5_fault ⟨(Nat.le_of_ble_eq_true rfl), (Nat.le_of_ble_eq_true rfl)⟩ ⟨Nat.le_refl _, Nat.le_refl _⟩ (Nat.le_of_ble_eq_true rfl) dL_law_287 rfl rfl ?_
  refine J_sw (o2 := (adM, d)) (emb2 := (fun h => wX (adX, d) hx ++ wM (adM, d) h)) (h2 := hm) rfl rfl (fun hd _ => va_D_fst (by simp [wM]) hd) ?_
  refine J_aload_n XM 2 dL_law_290 rfl rfl ?_
  refine J_mem (fun hA2 => ?_)
  refine J_callV XM (rest := [.int r]) (rs := [.int r, .int r]) (c_X6_fault l (adM, d) (fun h => wX (adX, d) hx ++ wM (adM, d) h) (fun q => s.heap.size ≤ q) hA2 (isM_w (adM, d) (wX (adX, d) hx))  hm r hr2) (isM_w (adM, d) (wX (adX, d) hx)).1 rfl rfl wd_686 wd_687 wd_688 wd_41 wd_689 hd_X6_fault ⟨(Nat.le_of_ble_eq_true rfl), (Nat.le_of_ble_eq_true rfl)⟩ ⟨Nat.le_refl _, Nat.le_refl _⟩ (Nat.le_of_ble_eq_true rfl) dL_law_291 rfl rfl ?_
  refine J_sw (o2 := (adX, d)) (emb2 := (fun h => wX (adX, d) h ++ wM (adM, d) hm)) (h2 := hx) rfl rfl (fun hd _ => va_D_fst (by simp [wX]) hd) ?_
  refine J_icmp_eq (tgt := 937) X dL_law_294 (by decide) (fun _ => ?_) (fun c9 => absurd rfl c9)
  exact K _ _ hr3
set_option maxHeartbeats 4000000 in
set_option maxRecDepth 100000 in
theorem law_c5 {Rl : Hp → Hp → Prop} (H9 : op_judge Rl) (X : Cx p s m #[Value.ref b] meth c RL cL_law 4 ret (adX, d)) (hS : va_X b L xs s s.heap) (hbl : b < s.heap.size) (hL : L ≤ 384) (i : Nat) (hi : i + 6 ≤ L) (hx hm : Hp) (hr : Rl hx hm) (K : ∀ hx hm, Rl hx hm → J p l e room_1 s m #[Value.ref b] below meth c 55 4744 (lw_Z below #[Value.ref b] s) (adX, d) (fun h => wX (adX, d) h ++ wM (adM, d) hm) (fun q => s.heap.size ≤ q) s.heap 4 937 [(0, .ref b), (1, .ref (adX 0)), (2, .ref (adM 0)), (3, .int (nI i))] [] hx) : J p l e room_1 s m #[Value.ref b] below meth c 55 4744 (lw_Z below #[Value.ref b] s) (adX, d) (fun h => wX (adX, d) h ++ wM (adM, d) hm) (fun q => s.heap.size ≤ q) s.heap 4 299 [(0, .ref b), (1, .ref (adX 0)), (2, .ref (adM 0)), (3, .int (nI i))] [] hx := by
  have XM : Cx p s m #[Value.ref b] meth c RL cL_law 4 ret (adM, d) := X
  obtain ⟨r, hx', hm', hr1, hr2, hr3⟩ := H9 hx hm (xs (i + 1)) hr
  refine J_aload_n X 1 dL_law_299 rfl rfl ?_
  refine J_aload_n X 0 dL_law_300 rfl rfl ?_
  refine J_iload_n X 3 dL_law_301 rfl rfl ?_
  refine J_const X (1 : Int32) dL_law_302 (by decide) ?_
  refine J_iadd X dL_law_303 ?_
  refine J_topi (nI (i + 1)) (nI_add i 1) ?_
  refine J_sld X hS hbl (Nat.not_le.mpr hbl) (vp_in_nI (show i + 1 < L by omega) (by omega)) dL_law_304 ?_
  refine J_topi (xs (i + 1)) (congrArg xs (nI_clamp (show i + 1 < 2 ^ 31 by omega))) ?_
  refine J_mem (fun hA1 => ?_)
  refine J_callV X (rest := []) (rs := [.int r]) (c_X5_judge l (adX, d) (fun h => wX (adX, d) h ++ wM (adM, d) hm) (fun q => s.heap.size ≤ q) hA1 (isX_w (adX, d) (wM (adM, d) hm)) (xs (i + 1)) hx r hx' hr1) (isX_w (adX, d) (wM (adM, d) hm)).1 rfl rfl wd_307 wd_308 wd_309 wd_34 wd_310 hd_X5_judge ⟨(Nat.le_of_ble_eq_true rfl), (Nat.le_of_ble_eq_true rfl)⟩ ⟨Nat.le_refl _, Nat.le_refl _⟩ (Nat.le_of_ble_eq_true rfl) dL_law_305 rfl rfl ?_
  refine J_sw (o2 := (adM, d)) (emb2 := (fun h => wX (adX, d) hx' ++ wM (adM, d) h)) (h2 := hm) rfl rfl (fun hd _ => va_D_fst (by simp [wM]) hd) ?_
  refine J_aload_n XM 2 dL_law_308 rfl rfl ?_
  refine J_aload_n XM 0 dL_law_309 rfl rfl ?_
  refine J_iload_n XM 3 dL_law_310 rfl rfl ?_
  refine J_const XM (1 : Int32) dL_law_311 (by decide) ?_
  refine J_iadd XM dL_law_312 ?_
  refine J_topi (nI (i + 1)) (nI_add i 1) ?_
  refine J_sld XM hS hbl (Nat.not_le.mpr hbl) (vp_in_nI (show i + 1 < L by omega) (by omega)) dL_law_313 ?_
  refine J_topi (xs (i + 1)) (congrArg xs (nI_clamp (show i + 1 < 2 ^ 31 by omega))) ?_
  refine J_mem (fun hA2 => ?_)
  refine J_callV XM (rest := [.int r]) (rs := [.int r, .int r]) (c_X6_judge l (adM, d) (fun h => wX (adX, d) hx' ++ wM (adM, d) h) (fun q => s.heap.size ≤ q) hA2 (isM_w (adM, d) (wX (adX, d) hx')) (xs (i + 1)) hm r hm' hr2) (isM_w (adM, d) (wX (adX, d) hx')).1 rfl rfl wd_694 wd_695 wd_696 wd_41 wd_697 hd_X6_judge ⟨(Nat.le_of_ble_eq_true rfl), (Nat.le_of_ble_eq_true rfl)⟩ ⟨Nat.le_refl _, Nat.le_refl _⟩ (Nat.le_of_ble_eq_true rfl) dL_law_314 rfl rfl ?_
  refine J_sw (o2 := (adX, d)) (emb2 := (fun h => wX (adX, d) h ++ wM (adM, d) hm')) (h2 := hx') rfl rfl (fun hd _ => va_D_fst (by simp [wX]) hd) ?_
  refine J_icmp_eq (tgt := 937) X dL_law_317 (by decide) (fun _ => ?_) (fun c9 => absurd rfl c9)
  exact K _ _ hr3
set_option maxHeartbeats 4000000 in
set_option maxRecDepth 100000 in
theorem law_c6 {Rl : Hp → Hp → Prop} (H9 : op_done Rl) (X : Cx p s m #[Value.ref b] meth c RL cL_law 4 ret (adX, d)) (hS : va_X b L xs s s.heap) (hbl : b < s.heap.size) (hL : L ≤ 384) (i : Nat) (hi : i + 6 ≤ L) (hx hm : Hp) (hr : Rl hx hm) (K : ∀ hx hm, Rl hx hm → J p l e room_1 s m #[Value.ref b] below meth c 55 4744 (lw_Z below #[Value.ref b] s) (adX, d) (fun h => wX (adX, d) h ++ wM (adM, d) hm) (fun q => s.heap.size ≤ q) s.heap 4 937 [(0, .ref b), (1, .ref (adX 0)), (2, .ref (adM 0)), (3, .int (nI i))] [] hx) : J p l e room_1 s m #[Value.ref b] below meth c 55 4744 (lw_Z below #[Value.ref b] s) (adX, d) (fun h => wX (adX, d) h ++ wM (adM, d) hm) (fun q => s.heap.size ≤ q) s.heap 4 322 [(0, .ref b), (1, .ref (adX 0)), (2, .ref (adM 0)), (3, .int (nI i))] [] hx := by
  have XM : Cx p s m #[Value.ref b] meth c RL cL_law 4 ret (adM, d) := X
  obtain ⟨r, hx', hm', hr1, hr2, hr3⟩ := H9 hx hm  hr
  refine J_aload_n X 1 dL_law_322 rfl rfl ?_
  refine J_mem (fun hA1 => ?_)
  refine J_callV X (rest := []) (rs := [.int r]) (c_X5_done l (adX, d) (fun h => wX (adX, d) h ++ wM (adM, d) hm) (fun q => s.heap.size ≤ q) hA1 (isX_w (adX, d) (wM (adM, d) hm))  hx r hx' hr1) (isX_w (adX, d) (wM (adM, d) hm)).1 rfl rfl wd_376 wd_377 wd_378 wd_34 wd_379 hd_X5_done ⟨(Nat.le_of_ble_eq_true rfl), (Nat.le_of_ble_eq_true rfl)⟩ ⟨Nat.le_refl _, Nat.le_refl _⟩ (Nat.le_of_ble_eq_true rfl) dL_law_323 rfl rfl ?_
  refine J_sw (o2 := (adM, d)) (emb2 := (fun h => wX (adX, d) hx' ++ wM (adM, d) h)) (h2 := hm) rfl rfl (fun hd _ => va_D_fst (by simp [wM]) hd) ?_
  refine J_aload_n XM 2 dL_law_326 rfl rfl ?_
  refine J_mem (fun hA2 => ?_)
  refine J_callV XM (rest := [.int r]) (rs := [.int r, .int r]) (c_X6_done l (adM, d) (fun h => wX (adX, d) hx' ++ wM (adM, d) h) (fun q => s.heap.size ≤ q) hA2 (isM_w (adM, d) (wX (adX, d) hx'))  hm r hm' hr2) (isM_w (adM, d) (wX (adX, d) hx')).1 rfl rfl wd_737 wd_738 wd_739 wd_41 wd_740 hd_X6_done ⟨(Nat.le_of_ble_eq_true rfl), (Nat.le_of_ble_eq_true rfl)⟩ ⟨Nat.le_refl _, Nat.le_refl _⟩ (Nat.le_of_ble_eq_true rfl) dL_law_327 rfl rfl ?_
  refine J_sw (o2 := (adX, d)) (emb2 := (fun h => wX (adX, d) h ++ wM (adM, d) hm')) (h2 := hx') rfl rfl (fun hd _ => va_D_fst (by simp [wX]) hd) ?_
  refine J_icmp_eq (tgt := 937) X dL_law_330 (by decide) (fun _ => ?_) (fun c9 => absurd rfl c9)
  exact K _ _ hr3
set_option maxHeartbeats 4000000 in
set_option maxRecDepth 100000 in
theorem law_c7 {Rl : Hp → Hp → Prop} (H9 : op_behind Rl) (X : Cx p s m #[Value.ref b] meth c RL cL_law 4 ret (adX, d)) (hS : va_X b L xs s s.heap) (hbl : b < s.heap.size) (hL : L ≤ 384) (i : Nat) (hi : i + 6 ≤ L) (hx hm : Hp) (hr : Rl hx hm) (K : ∀ hx hm, Rl hx hm → J p l e room_1 s m #[Value.ref b] below meth c 55 4744 (lw_Z below #[Value.ref b] s) (adX, d) (fun h => wX (adX, d) h ++ wM (adM, d) hm) (fun q => s.heap.size ≤ q) s.heap 4 937 [(0, .ref b), (1, .ref (adX 0)), (2, .ref (adM 0)), (3, .int (nI i))] [] hx) : J p l e room_1 s m #[Value.ref b] below meth c 55 4744 (lw_Z below #[Value.ref b] s) (adX, d) (fun h => wX (adX, d) h ++ wM (adM, d) hm) (fun q => s.heap.size ≤ q) s.heap 4 335 [(0, .ref b), (1, .ref (adX 0)), (2, .ref (adM 0)), (3, .int (nI i))] [] hx := by
  have XM : Cx p s m #[Value.ref b] meth c RL cL_law 4 ret (adM, d) := X
  obtain ⟨r, hx', hm', hr1, hr2, hr3⟩ := H9 hx hm (xs (i + 1)) (xs (i + 2)) hr
  refine J_aload_n X 1 dL_law_335 rfl rfl ?_
  refine J_aload_n X 0 dL_law_336 rfl rfl ?_
  refine J_iload_n X 3 dL_law_337 rfl rfl ?_
  refine J_const X (1 : Int32) dL_law_338 (by decide) ?_
  refine J_iadd X dL_law_339 ?_
  refine J_topi (nI (i + 1)) (nI_add i 1) ?_
  refine J_sld X hS hbl (Nat.not_le.mpr hbl) (vp_in_nI (show i + 1 < L by omega) (by omega)) dL_law_340 ?_
  refine J_topi (xs (i + 1)) (congrArg xs (nI_clamp (show i + 1 < 2 ^ 31 by omega))) ?_
  refine J_aload_n X 0 dL_law_341 rfl rfl ?_
  refine J_iload_n X 3 dL_law_342 rfl rfl ?_
  refine J_const X (2 : Int32) dL_law_343 (by decide) ?_
  refine J_iadd X dL_law_344 ?_
  refine J_topi (nI (i + 2)) (nI_add i 2) ?_
  refine J_sld X hS hbl (Nat.not_le.mpr hbl) (vp_in_nI (show i + 2 < L by omega) (by omega)) dL_law_345 ?_
  refine J_topi (xs (i + 2)) (congrArg xs (nI_clamp (show i + 2 < 2 ^ 31 by omega))) ?_
  refine J_mem (fun hA1 => ?_)
  refine J_callV X (rest := []) (rs := [.int r]) (c_X5_behind l (adX, d) (fun h => wX (adX, d) h ++ wM (adM, d) hm) (fun q => s.heap.size ≤ q) hA1 (isX_w (adX, d) (wM (adM, d) hm)) (xs (i + 1)) (xs (i + 2)) hx r hx' hr1) (isX_w (adX, d) (wM (adM, d) hm)).1 rfl rfl wd_385 wd_386 wd_387 wd_34 wd_388 hd_X5_behind ⟨(Nat.le_of_ble_eq_true rfl), (Nat.le_of_ble_eq_true rfl)⟩ ⟨Nat.le_refl _, Nat.le_refl _⟩ (Nat.le_of_ble_eq_true rfl) dL_law_346 rfl rfl ?_
  refine J_sw (o2 := (adM, d)) (emb2 := (fun h => wX (adX, d) hx' ++ wM (adM, d) h)) (h2 := hm) rfl rfl (fun hd _ => va_D_fst (by simp [wM]) hd) ?_
  refine J_aload_n XM 2 dL_law_349 rfl rfl ?_
  refine J_aload_n XM 0 dL_law_350 rfl rfl ?_
  refine J_iload_n XM 3 dL_law_351 rfl rfl ?_
  refine J_const XM (1 : Int32) dL_law_352 (by decide) ?_
  refine J_iadd XM dL_law_353 ?_
  refine J_topi (nI (i + 1)) (nI_add i 1) ?_
  refine J_sld XM hS hbl (Nat.not_le.mpr hbl) (vp_in_nI (show i + 1 < L by omega) (by omega)) dL_law_354 ?_
  refine J_topi (xs (i + 1)) (congrArg xs (nI_clamp (show i + 1 < 2 ^ 31 by omega))) ?_
  refine J_aload_n XM 0 dL_law_355 rfl rfl ?_
  refine J_iload_n XM 3 dL_law_356 rfl rfl ?_
  refine J_const XM (2 : Int32) dL_law_357 (by decide) ?_
  refine J_iadd XM dL_law_358 ?_
  refine J_topi (nI (i + 2)) (nI_add i 2) ?_
  refine J_sld XM hS hbl (Nat.not_le.mpr hbl) (vp_in_nI (show i + 2 < L by omega) (by omega)) dL_law_359 ?_
  refine J_topi (xs (i + 2)) (congrArg xs (nI_clamp (show i + 2 < 2 ^ 31 by omega))) ?_
  refine J_mem (fun hA2 => ?_)
  refine J_callV XM (rest := [.int r]) (rs := [.int r, .int r]) (c_X6_behind l (adM, d) (fun h => wX (adX, d) hx' ++ wM (adM, d) h) (fun q => s.heap.size ≤ q) hA2 (isM_w (adM, d) (wX (adX, d) hx')) (xs (i + 1)) (xs (i + 2)) hm r hm' hr2) (isM_w (adM, d) (wX (adX, d) hx')).1 rfl rfl wd_745 wd_746 wd_747 wd_41 wd_748 hd_X6_behind ⟨(Nat.le_of_ble_eq_true rfl), (Nat.le_of_ble_eq_true rfl)⟩ ⟨Nat.le_refl _, Nat.le_refl _⟩ (Nat.le_of_ble_eq_true rfl) dL_law_360 rfl rfl ?_
  refine J_sw (o2 := (adX, d)) (emb2 := (fun h => wX (adX, d) h ++ wM (adM, d) hm')) (h2 := hx') rfl rfl (fun hd _ => va_D_fst (by simp [wX]) hd) ?_
  refine J_icmp_eq (tgt := 937) X dL_law_363 (by decide) (fun _ => ?_) (fun c9 => absurd rfl c9)
  exact K _ _ hr3
set_option maxHeartbeats 4000000 in
set_option maxRecDepth 100000 in
theorem law_c8 {Rl : Hp → Hp → Prop} (H9 : op_goes Rl) (X : Cx p s m #[Value.ref b] meth c RL cL_law 4 ret (adX, d)) (hS : va_X b L xs s s.heap) (hbl : b < s.heap.size) (hL : L ≤ 384) (i : Nat) (hi : i + 6 ≤ L) (hx hm : Hp) (hr : Rl hx hm) (K : ∀ hx hm, Rl hx hm → J p l e room_1 s m #[Value.ref b] below meth c 55 4744 (lw_Z below #[Value.ref b] s) (adX, d) (fun h => wX (adX, d) h ++ wM (adM, d) hm) (fun q => s.heap.size ≤ q) s.heap 4 937 [(0, .ref b), (1, .ref (adX 0)), (2, .ref (adM 0)), (3, .int (nI i))] [] hx) : J p l e room_1 s m #[Value.ref b] below meth c 55 4744 (lw_Z below #[Value.ref b] s) (adX, d) (fun h => wX (adX, d) h ++ wM (adM, d) hm) (fun q => s.heap.size ≤ q) s.heap 4 368 [(0, .ref b), (1, .ref (adX 0)), (2, .ref (adM 0)), (3, .int (nI i))] [] hx := by
  have XM : Cx p s m #[Value.ref b] meth c RL cL_law 4 ret (adM, d) := X
  obtain ⟨r, hx', hm', hr1, hr2, hr3⟩ := H9 hx hm (xs (i + 1)) (xs (i + 2)) hr
  refine J_aload_n X 1 dL_law_368 rfl rfl ?_
  refine J_aload_n X 0 dL_law_369 rfl rfl ?_
  refine J_iload_n X 3 dL_law_370 rfl rfl ?_
  refine J_const X (1 : Int32) dL_law_371 (by decide) ?_
  refine J_iadd X dL_law_372 ?_
  refine J_topi (nI (i + 1)) (nI_add i 1) ?_
  refine J_sld X hS hbl (Nat.not_le.mpr hbl) (vp_in_nI (show i + 1 < L by omega) (by omega)) dL_law_373 ?_
  refine J_topi (xs (i + 1)) (congrArg xs (nI_clamp (show i + 1 < 2 ^ 31 by omega))) ?_
  refine J_aload_n X 0 dL_law_374 rfl rfl ?_
  refine J_iload_n X 3 dL_law_375 rfl rfl ?_
  refine J_const X (2 : Int32) dL_law_376 (by decide) ?_
  refine J_iadd X dL_law_377 ?_
  refine J_topi (nI (i + 2)) (nI_add i 2) ?_
  refine J_sld X hS hbl (Nat.not_le.mpr hbl) (vp_in_nI (show i + 2 < L by omega) (by omega)) dL_law_378 ?_
  refine J_topi (xs (i + 2)) (congrArg xs (nI_clamp (show i + 2 < 2 ^ 31 by omega))) ?_
  refine J_mem (fun hA1 => ?_)
  refine J_callV X (rest := []) (rs := [.int r]) (c_X5_goes l (adX, d) (fun h => wX (adX, d) h ++ wM (adM, d) hm) (fun q => s.heap.size ≤ q) hA1 (isX_w (adX, d) (wM (adM, d) hm)) (xs (i + 1)) (xs (i + 2)) hx r hx' hr1) (isX_w (adX, d) (wM (adM, d) hm)).1 rfl rfl wd_390 wd_391 wd_392 wd_34 wd_393 hd_X5_goes ⟨(Nat.le_of_ble_eq_true rfl), (Nat.le_of_ble_eq_true rfl)⟩ ⟨Nat.le_refl _, Nat.le_refl _⟩ (Nat.le_of_ble_eq_true rfl) dL_law_379 rfl rfl ?_
  refine J_sw (o2 := (adM, d)) (emb2 := (fun h => wX (adX, d) hx' ++ wM (adM, d) h)) (h2 := hm) rfl rfl (fun hd _ => va_D_fst (by simp [wM]) hd) ?_
  refine J_aload_n XM 2 dL_law_382 rfl rfl ?_
  refine J_aload_n XM 0 dL_law_383 rfl rfl ?_
  refine J_iload_n XM 3 dL_law_384 rfl rfl ?_
  refine J_const XM (1 : Int32) dL_law_385 (by decide) ?_
  refine J_iadd XM dL_law_386 ?_
  refine J_topi (nI (i + 1)) (nI_add i 1) ?_
  refine J_sld XM hS hbl (Nat.not_le.mpr hbl) (vp_in_nI (show i + 1 < L by omega) (by omega)) dL_law_387 ?_
  refine J_topi (xs (i + 1)) (congrArg xs (nI_clamp (show i + 1 < 2 ^ 31 by omega))) ?_
  refine J_aload_n XM 0 dL_law_388 rfl rfl ?_
  refine J_iload_n XM 3 dL_law_389 rfl rfl ?_
  refine J_const XM (2 : Int32) dL_law_390 (by decide) ?_
  refine J_iadd XM dL_law_391 ?_
  refine J_topi (nI (i + 2)) (nI_add i 2) ?_
  refine J_sld XM hS hbl (Nat.not_le.mpr hbl) (vp_in_nI (show i + 2 < L by omega) (by omega)) dL_law_392 ?_
  refine J_topi (xs (i + 2)) (congrArg xs (nI_clamp (show i + 2 < 2 ^ 31 by omega))) ?_
  refine J_mem (fun hA2 => ?_)
  refine J_callV XM (rest := [.int r]) (rs := [.int r, .int r]) (c_X6_goes l (adM, d) (fun h => wX (adX, d) hx' ++ wM (adM, d) h) (fun q => s.heap.size ≤ q) hA2 (isM_w (adM, d) (wX (adX, d) hx')) (xs (i + 1)) (xs (i + 2)) hm r hm' hr2) (isM_w (adM, d) (wX (adX, d) hx')).1 rfl rfl wd_749 wd_750 wd_751 wd_41 wd_752 hd_X6_goes ⟨(Nat.le_of_ble_eq_true rfl), (Nat.le_of_ble_eq_true rfl)⟩ ⟨Nat.le_refl _, Nat.le_refl _⟩ (Nat.le_of_ble_eq_true rfl) dL_law_393 rfl rfl ?_
  refine J_sw (o2 := (adX, d)) (emb2 := (fun h => wX (adX, d) h ++ wM (adM, d) hm')) (h2 := hx') rfl rfl (fun hd _ => va_D_fst (by simp [wX]) hd) ?_
  refine J_icmp_eq (tgt := 937) X dL_law_396 (by decide) (fun _ => ?_) (fun c9 => absurd rfl c9)
  exact K _ _ hr3
set_option maxHeartbeats 4000000 in
set_option maxRecDepth 100000 in
theorem law_c9 {Rl : Hp → Hp → Prop} (H9 : op_then Rl) (X : Cx p s m #[Value.ref b] meth c RL cL_law 4 ret (adX, d)) (hS : va_X b L xs s s.heap) (hbl : b < s.heap.size) (hL : L ≤ 384) (i : Nat) (hi : i + 6 ≤ L) (hx hm : Hp) (hr : Rl hx hm) (K : ∀ hx hm, Rl hx hm → J p l e room_1 s m #[Value.ref b] below meth c 55 4744 (lw_Z below #[Value.ref b] s) (adX, d) (fun h => wX (adX, d) h ++ wM (adM, d) hm) (fun q => s.heap.size ≤ q) s.heap 4 937 [(0, .ref b), (1, .ref (adX 0)), (2, .ref (adM 0)), (3, .int (nI i))] [] hx) : J p l e room_1 s m #[Value.ref b] below meth c 55 4744 (lw_Z below #[Value.ref b] s) (adX, d) (fun h => wX (adX, d) h ++ wM (adM, d) hm) (fun q => s.heap.size ≤ q) s.heap 4 401 [(0, .ref b), (1, .ref (adX 0)), (2, .ref (adM 0)), (3, .int (nI i))] [] hx := by
  have XM : Cx p s m #[Value.ref b] meth c RL cL_law 4 ret (adM, d) := X
  obtain ⟨r, hx', hm', hr1, hr2, hr3⟩ := H9 hx hm (xs (i + 1)) hr
  refine J_aload_n X 1 dL_law_401 rfl rfl ?_
  refine J_aload_n X 0 dL_law_402 rfl rfl ?_
  refine J_iload_n X 3 dL_law_403 rfl rfl ?_
  refine J_const X (1 : Int32) dL_law_404 (by decide) ?_
  refine J_iadd X dL_law_405 ?_
  refine J_topi (nI (i + 1)) (nI_add i 1) ?_
  refine J_sld X hS hbl (Nat.not_le.mpr hbl) (vp_in_nI (show i + 1 < L by omega) (by omega)) dL_law_406 ?_
  refine J_topi (xs (i + 1)) (congrArg xs (nI_clamp (show i + 1 < 2 ^ 31 by omega))) ?_
  refine J_mem (fun hA1 => ?_)
  refine J_callV X (rest := []) (rs := [.int r]) (c_X5_then l (adX, d) (fun h => wX (adX, d) h ++ wM (adM, d) hm) (fun q => s.heap.size ≤ q) hA1 (isX_w (adX, d) (wM (adM, d) hm)) (xs (i + 1)) hx r hx' hr1) (isX_w (adX, d) (wM (adM, d) hm)).1 rfl rfl wd_397 wd_398 wd_399 wd_34 wd_400 hd_X5_then ⟨(Nat.le_of_ble_eq_true rfl), (Nat.le_of_ble_eq_true rfl)⟩ ⟨Nat.le_refl _, Nat.le_refl _⟩ (Nat.le_of_ble_eq_true rfl) dL_law_407 rfl rfl ?_
  refine J_sw (o2 := (adM, d)) (emb2 := (fun h => wX (adX, d) hx' ++ wM (adM, d) h)) (h2 := hm) rfl rfl (fun hd _ => va_D_fst (by simp [wM]) hd) ?_
  refine J_aload_n XM 2 dL_law_410 rfl rfl ?_
  refine J_aload_n XM 0 dL_law_411 rfl rfl ?_
  refine J_iload_n XM 3 dL_law_412 rfl rfl ?_
  refine J_const XM (1 : Int32) dL_law_413 (by decide) ?_
  refine J_iadd XM dL_law_414 ?_
  refine J_topi (nI (i + 1)) (nI_add i 1) ?_
  refine J_sld XM hS hbl (Nat.not_le.mpr hbl) (vp_in_nI (show i + 1 < L by omega) (by omega)) dL_law_415 ?_
  refine J_topi (xs (i + 1)) (congrArg xs (nI_clamp (show i + 1 < 2 ^ 31 by omega))) ?_
  refine J_mem (fun hA2 => ?_)
  refine J_callV XM (rest := [.int r]) (rs := [.int r, .int r]) (c_X6_then l (adM, d) (fun h => wX (adX, d) hx' ++ wM (adM, d) h) (fun q => s.heap.size ≤ q) hA2 (isM_w (adM, d) (wX (adX, d) hx')) (xs (i + 1)) hm r hm' hr2) (isM_w (adM, d) (wX (adX, d) hx')).1 rfl rfl wd_753 wd_754 wd_755 wd_41 wd_756 hd_X6_then ⟨(Nat.le_of_ble_eq_true rfl), (Nat.le_of_ble_eq_true rfl)⟩ ⟨Nat.le_refl _, Nat.le_refl _⟩ (Nat.le_of_ble_eq_true rfl) dL_law_416 rfl rfl ?_
  refine J_sw (o2 := (adX, d)) (emb2 := (fun h => wX (adX, d) h ++ wM (adM, d) hm')) (h2 := hx') rfl rfl (fun hd _ => va_D_fst (by simp [wX]) hd) ?_
  refine J_icmp_eq (tgt := 937) X dL_law_419 (by decide) (fun _ => ?_) (fun c9 => absurd rfl c9)
  exact K _ _ hr3
set_option maxHeartbeats 4000000 in
set_option maxRecDepth 100000 in
theorem law_c10 {Rl : Hp → Hp → Prop} (H9 : op_way Rl) (X : Cx p s m #[Value.ref b] meth c RL cL_law 4 ret (adX, d)) (hS : va_X b L xs s s.heap) (hbl : b < s.heap.size) (hL : L ≤ 384) (i : Nat) (hi : i + 6 ≤ L) (hx hm : Hp) (hr : Rl hx hm) (K : ∀ hx hm, Rl hx hm → J p l e room_1 s m #[Value.ref b] below meth c 55 4744 (lw_Z below #[Value.ref b] s) (adX, d) (fun h => wX (adX, d) h ++ wM (adM, d) hm) (fun q => s.heap.size ≤ q) s.heap 4 937 [(0, .ref b), (1, .ref (adX 0)), (2, .ref (adM 0)), (3, .int (nI i))] [] hx) : J p l e room_1 s m #[Value.ref b] below meth c 55 4744 (lw_Z below #[Value.ref b] s) (adX, d) (fun h => wX (adX, d) h ++ wM (adM, d) hm) (fun q => s.heap.size ≤ q) s.heap 4 424 [(0, .ref b), (1, .ref (adX 0)), (2, .ref (adM 0)), (3, .int (nI i))] [] hx := by
  have XM : Cx p s m #[Value.ref b] meth c RL cL_law 4 ret (adM, d) := X
  obtain ⟨r, hx', hm', hr1, hr2, hr3⟩ := H9 hx hm (xs (i + 1)) (xs (i + 2)) (xs (i + 3)) hr
  refine J_aload_n X 1 dL_law_424 rfl rfl ?_
  refine J_aload_n X 0 dL_law_425 rfl rfl ?_
  refine J_iload_n X 3 dL_law_426 rfl rfl ?_
  refine J_const X (1 : Int32) dL_law_427 (by decide) ?_
  refine J_iadd X dL_law_428 ?_
  refine J_topi (nI (i + 1)) (nI_add i 1) ?_
  refine J_sld X hS hbl (Nat.not_le.mpr hbl) (vp_in_nI (show i + 1 < L by omega) (by omega)) dL_law_429 ?_
  refine J_topi (xs (i + 1)) (congrArg xs (nI_clamp (show i + 1 < 2 ^ 31 by omega))) ?_
  refine J_aload_n X 0 dL_law_430 rfl rfl ?_
  refine J_iload_n X 3 dL_law_431 rfl rfl ?_
  refine J_const X (2 : Int32) dL_law_432 (by decide) ?_
  refine J_iadd X dL_law_433 ?_
  refine J_topi (nI (i + 2)) (nI_add i 2) ?_
  refine J_sld X hS hbl (Nat.not_le.mpr hbl) (vp_in_nI (show i + 2 < L by omega) (by omega)) dL_law_434 ?_
  refine J_topi (xs (i + 2)) (congrArg xs (nI_clamp (show i + 2 < 2 ^ 31 by omega))) ?_
  refine J_aload_n X 0 dL_law_435 rfl rfl ?_
  refine J_iload_n X 3 dL_law_436 rfl rfl ?_
  refine J_const X (3 : Int32) dL_law_437 (by decide) ?_
  refine J_iadd X dL_law_438 ?_
  refine J_topi (nI (i + 3)) (nI_add i 3) ?_
  refine J_sld X hS hbl (Nat.not_le.mpr hbl) (vp_in_nI (show i + 3 < L by omega) (by omega)) dL_law_439 ?_
  refine J_topi (xs (i + 3)) (congrArg xs (nI_clamp (show i + 3 < 2 ^ 31 by omega))) ?_
  refine J_mem (fun hA1 => ?_)
  refine J_callV X (rest := []) (rs := [.int r]) (c_X5_way l (adX, d) (fun h => wX (adX, d) h ++ wM (adM, d) hm) (fun q => s.heap.size ≤ q) hA1 (isX_w (adX, d) (wM (adM, d) hm)) (xs (i + 1)) (xs (i + 2)) (xs (i + 3)) hx r hx' hr1) (isX_w (adX, d) (wM (adM, d) hm)).1 rfl rfl wd_418 wd_419 wd_420 wd_34 wd_421 hd_X5_way ⟨(Nat.le_of_ble_eq_true rfl), (Nat.le_of_ble_eq_true rfl)⟩ ⟨Nat.le_refl _, Nat.le_refl _⟩ (Nat.le_of_ble_eq_true rfl) dL_law_440 rfl rfl ?_
  refine J_sw (o2 := (adM, d)) (emb2 := (fun h => wX (adX, d) hx' ++ wM (adM, d) h)) (h2 := hm) rfl rfl (fun hd _ => va_D_fst (by simp [wM]) hd) ?_
  refine J_aload_n XM 2 dL_law_443 rfl rfl ?_
  refine J_aload_n XM 0 dL_law_444 rfl rfl ?_
  refine J_iload_n XM 3 dL_law_445 rfl rfl ?_
  refine J_const XM (1 : Int32) dL_law_446 (by decide) ?_
  refine J_iadd XM dL_law_447 ?_
  refine J_topi (nI (i + 1)) (nI_add i 1) ?_
  refine J_sld XM hS hbl (Nat.not_le.mpr hbl) (vp_in_nI (show i + 1 < L by omega) (by omega)) dL_law_448 ?_
  refine J_topi (xs (i + 1)) (congrArg xs (nI_clamp (show i + 1 < 2 ^ 31 by omega))) ?_
  refine J_aload_n XM 0 dL_law_449 rfl rfl ?_
  refine J_iload_n XM 3 dL_law_450 rfl rfl ?_
  refine J_const XM (2 : Int32) dL_law_451 (by decide) ?_
  refine J_iadd XM dL_law_452 ?_
  refine J_topi (nI (i + 2)) (nI_add i 2) ?_
  refine J_sld XM hS hbl (Nat.not_le.mpr hbl) (vp_in_nI (show i + 2 < L by omega) (by omega)) dL_law_453 ?_
  refine J_topi (xs (i + 2)) (congrArg xs (nI_clamp (show i + 2 < 2 ^ 31 by omega))) ?_
  refine J_aload_n XM 0 dL_law_454 rfl rfl ?_
  refine J_iload_n XM 3 dL_law_455 rfl rfl ?_
  refine J_const XM (3 : Int32) dL_law_456 (by decide) ?_
  refine J_iadd XM dL_law_457 ?_
  refine J_topi (nI (i + 3)) (nI_add i 3) ?_
  refine J_sld XM hS hbl (Nat.not_le.mpr hbl) (vp_in_nI (show i + 3 < L by omega) (by omega)) dL_law_458 ?_
  refine J_topi (xs (i + 3)) (congrArg xs (nI_clamp (show i + 3 < 2 ^ 31 by omega))) ?_
  refine J_mem (fun hA2 => ?_)
  refine J_callV XM (rest := [.int r]) (rs := [.int r, .int r]) (c_X6_way l (adM, d) (fun h => wX (adX, d) hx' ++ wM (adM, d) h) (fun q => s.heap.size ≤ q) hA2 (isM_w (adM, d) (wX (adX, d) hx')) (xs (i + 1)) (xs (i + 2)) (xs (i + 3)) hm r hm' hr2) (isM_w (adM, d) (wX (adX, d) hx')).1 rfl rfl wd_773 wd_774 wd_775 wd_41 wd_776 hd_X6_way ⟨(Nat.le_of_ble_eq_true rfl), (Nat.le_of_ble_eq_true rfl)⟩ ⟨Nat.le_refl _, Nat.le_refl _⟩ (Nat.le_of_ble_eq_true rfl) dL_law_459 rfl rfl ?_
  refine J_sw (o2 := (adX, d)) (emb2 := (fun h => wX (adX, d) h ++ wM (adM, d) hm')) (h2 := hx') rfl rfl (fun hd _ => va_D_fst (by simp [wX]) hd) ?_
  refine J_icmp_eq (tgt := 937) X dL_law_462 (by decide) (fun _ => ?_) (fun c9 => absurd rfl c9)
  exact K _ _ hr3
set_option maxHeartbeats 4000000 in
set_option maxRecDepth 100000 in
theorem law_c11 {Rl : Hp → Hp → Prop} (H9 : op_parts Rl) (X : Cx p s m #[Value.ref b] meth c RL cL_law 4 ret (adX, d)) (hS : va_X b L xs s s.heap) (hbl : b < s.heap.size) (hL : L ≤ 384) (i : Nat) (hi : i + 6 ≤ L) (hx hm : Hp) (hr : Rl hx hm) (K : ∀ hx hm, Rl hx hm → J p l e room_1 s m #[Value.ref b] below meth c 55 4744 (lw_Z below #[Value.ref b] s) (adX, d) (fun h => wX (adX, d) h ++ wM (adM, d) hm) (fun q => s.heap.size ≤ q) s.heap 4 937 [(0, .ref b), (1, .ref (adX 0)), (2, .ref (adM 0)), (3, .int (nI i))] [] hx) : J p l e room_1 s m #[Value.ref b] below meth c 55 4744 (lw_Z below #[Value.ref b] s) (adX, d) (fun h => wX (adX, d) h ++ wM (adM, d) hm) (fun q => s.heap.size ≤ q) s.heap 4 467 [(0, .ref b), (1, .ref (adX 0)), (2, .ref (adM 0)), (3, .int (nI i))] [] hx := by
  have XM : Cx p s m #[Value.ref b] meth c RL cL_law 4 ret (adM, d) := X
  obtain ⟨r, hm', hr1, hr2, hr3⟩ := H9 hx hm (xs (i + 1)) hr
  refine J_aload_n X 1 dL_law_467 rfl rfl ?_
  refine J_aload_n X 0 dL_law_468 rfl rfl ?_
  refine J_iload_n X 3 dL_law_469 rfl rfl ?_
  refine J_const X (1 : Int32) dL_law_470 (by decide) ?_
  refine J_iadd X dL_law_471 ?_
  refine J_topi (nI (i + 1)) (nI_add i 1) ?_
  refine J_sld X hS hbl (Nat.not_le.mpr hbl) (vp_in_nI (show i + 1 < L by omega) (by omega)) dL_law_472 ?_
  refine J_topi (xs (i + 1)) (congrArg xs (nI_clamp (show i + 1 < 2 ^ 31 by omega))) ?_
  refine J_mem (fun hA1 => ?_)
  refine J_callV X (rest := []) (rs := [.int r]) (c_X5_parts l (adX, d) (fun h => wX (adX, d) h ++ wM (adM, d) hm) (fun q => s.heap.size ≤ q) hA1 (isX_w (adX, d) (wM (adM, d) hm)) (xs (i + 1)) hx r hr1) (isX_w (adX, d) (wM (adM, d) hm)).1 rfl rfl wd_434 wd_435 wd_436 wd_34 wd_437 hd_X5_parts ⟨(Nat.le_of_ble_eq_true rfl), (Nat.le_of_ble_eq_true rfl)⟩ ⟨Nat.le_refl _, Nat.le_refl _⟩ (Nat.le_of_ble_eq_true rfl) dL_law_473 rfl rfl ?_
  refine J_sw (o2 := (adM, d)) (emb2 := (fun h => wX (adX, d) hx ++ wM (adM, d) h)) (h2 := hm) rfl rfl (fun hd _ => va_D_fst (by simp [wM]) hd) ?_
  refine J_aload_n XM 2 dL_law_476 rfl rfl ?_
  refine J_aload_n XM 0 dL_law_477 rfl rfl ?_
  refine J_iload_n XM 3 dL_law_478 rfl rfl ?_
  refine J_const XM (1 : Int32) dL_law_479 (by decide) ?_
  refine J_iadd XM dL_law_480 ?_
  refine J_topi (nI (i + 1)) (nI_add i 1) ?_
  refine J_sld XM hS hbl (Nat.not_le.mpr hbl) (vp_in_nI (show i + 1 < L by omega) (by omega)) dL_law_481 ?_
  refine J_topi (xs (i + 1)) (congrArg xs (nI_clamp (show i + 1 < 2 ^ 31 by omega))) ?_
  refine J_mem (fun hA2 => ?_)
  refine J_callV XM (rest := [.int r]) (rs := [.int r, .int r]) (c_X6_parts l (adM, d) (fun h => wX (adX, d) hx ++ wM (adM, d) h) (fun q => s.heap.size ≤ q) hA2 (isM_w (adM, d) (wX (adX, d) hx)) (xs (i + 1)) hm r hm' hr2) (isM_w (adM, d) (wX (adX, d) hx)).1 rfl rfl wd_778 wd_779 wd_780 wd_41 wd_781 hd_X6_parts ⟨(Nat.le_of_ble_eq_true rfl), (Nat.le_of_ble_eq_true rfl)⟩ ⟨Nat.le_refl _, Nat.le_refl _⟩ (Nat.le_of_ble_eq_true rfl) dL_law_482 rfl rfl ?_
  refine J_sw (o2 := (adX, d)) (emb2 := (fun h => wX (adX, d) h ++ wM (adM, d) hm')) (h2 := hx) rfl rfl (fun hd _ => va_D_fst (by simp [wX]) hd) ?_
  refine J_icmp_eq (tgt := 937) X dL_law_485 (by decide) (fun _ => ?_) (fun c9 => absurd rfl c9)
  exact K _ _ hr3
set_option maxHeartbeats 4000000 in
set_option maxRecDepth 100000 in
theorem law_c12 {Rl : Hp → Hp → Prop} (H9 : op_strokes Rl) (X : Cx p s m #[Value.ref b] meth c RL cL_law 4 ret (adX, d)) (hS : va_X b L xs s s.heap) (hbl : b < s.heap.size) (hL : L ≤ 384) (i : Nat) (hi : i + 6 ≤ L) (hx hm : Hp) (hr : Rl hx hm) (K : ∀ hx hm, Rl hx hm → J p l e room_1 s m #[Value.ref b] below meth c 55 4744 (lw_Z below #[Value.ref b] s) (adX, d) (fun h => wX (adX, d) h ++ wM (adM, d) hm) (fun q => s.heap.size ≤ q) s.heap 4 937 [(0, .ref b), (1, .ref (adX 0)), (2, .ref (adM 0)), (3, .int (nI i))] [] hx) : J p l e room_1 s m #[Value.ref b] below meth c 55 4744 (lw_Z below #[Value.ref b] s) (adX, d) (fun h => wX (adX, d) h ++ wM (adM, d) hm) (fun q => s.heap.size ≤ q) s.heap 4 490 [(0, .ref b), (1, .ref (adX 0)), (2, .ref (adM 0)), (3, .int (nI i))] [] hx := by
  have XM : Cx p s m #[Value.ref b] meth c RL cL_law 4 ret (adM, d) := X
  obtain ⟨r, hm', hr1, hr2, hr3⟩ := H9 hx hm  hr
  refine J_aload_n X 1 dL_law_490 rfl rfl ?_
  refine J_mem (fun hA1 => ?_)
  refine J_callV X (rest := []) (rs := [.int r]) (c_X5_strokes l (adX, d) (fun h => wX (adX, d) h ++ wM (adM, d) hm) (fun q => s.heap.size ≤ q) hA1 (isX_w (adX, d) (wM (adM, d) hm))  hx r hr1) (isX_w (adX, d) (wM (adM, d) hm)).1 rfl rfl wd_447 wd_448 wd_449 wd_34 wd_450 hd_X5_strokes ⟨(Nat.le_of_ble_eq_true rfl), (Nat.le_of_ble_eq_true rfl)⟩ ⟨Nat.le_refl _, Nat.le_refl _⟩ (Nat.le_of_ble_eq_true rfl) dL_law_491 rfl rfl ?_
  refine J_sw (o2 := (adM, d)) (emb2 := (fun h => wX (adX, d) hx ++ wM (adM, d) h)) (h2 := hm) rfl rfl (fun hd _ => va_D_fst (by simp [wM]) hd) ?_
  refine J_aload_n XM 2 dL_law_494 rfl rfl ?_
  refine J_mem (fun hA2 => ?_)
  refine J_callV XM (rest := [.int r]) (rs := [.int r, .int r]) (c_X6_strokes l (adM, d) (fun h => wX (adX, d) hx ++ wM (adM, d) h) (fun q => s.heap.size ≤ q) hA2 (isM_w (adM, d) (wX (adX, d) hx))  hm r hm' hr2) (isM_w (adM, d) (wX (adX, d) hx)).1 rfl rfl wd_786 wd_787 wd_788 wd_41 wd_789 hd_X6_strokes ⟨(Nat.le_of_ble_eq_true rfl), (Nat.le_of_ble_eq_true rfl)⟩ ⟨Nat.le_refl _, Nat.le_refl _⟩ (Nat.le_of_ble_eq_true rfl) dL_law_495 rfl rfl ?_
  refine J_sw (o2 := (adX, d)) (emb2 := (fun h => wX (adX, d) h ++ wM (adM, d) hm')) (h2 := hx) rfl rfl (fun hd _ => va_D_fst (by simp [wX]) hd) ?_
  refine J_icmp_eq (tgt := 937) X dL_law_498 (by decide) (fun _ => ?_) (fun c9 => absurd rfl c9)
  exact K _ _ hr3
set_option maxHeartbeats 4000000 in
set_option maxRecDepth 100000 in
theorem law_c13 {Rl : Hp → Hp → Prop} (H9 : op_mended Rl) (X : Cx p s m #[Value.ref b] meth c RL cL_law 4 ret (adX, d)) (hS : va_X b L xs s s.heap) (hbl : b < s.heap.size) (hL : L ≤ 384) (i : Nat) (hi : i + 6 ≤ L) (hx hm : Hp) (hr : Rl hx hm) (K : ∀ hx hm, Rl hx hm → J p l e room_1 s m #[Value.ref b] below meth c 55 4744 (lw_Z below #[Value.ref b] s) (adX, d) (fun h => wX (adX, d) h ++ wM (adM, d) hm) (fun q => s.heap.size ≤ q) s.heap 4 937 [(0, .ref b), (1, .ref (adX 0)), (2, .ref (adM 0)), (3, .int (nI i))] [] hx) : J p l e room_1 s m #[Value.ref b] below meth c 55 4744 (lw_Z below #[Value.ref b] s) (adX, d) (fun h => wX (adX, d) h ++ wM (adM, d) hm) (fun q => s.heap.size ≤ q) s.heap 4 503 [(0, .ref b), (1, .ref (adX 0)), (2, .ref (adM 0)), (3, .int (nI i))] [] hx := by
  have XM : Cx p s m #[Value.ref b] meth c RL cL_law 4 ret (adM, d) := X
  obtain ⟨r, hx', hm', hr1, hr2, hr3⟩ := H9 hx hm (xs (i + 1)) (xs (i + 2)) (xs (i + 3)) hr
  refine J_aload_n X 1 dL_law_503 rfl rfl ?_
  refine J_aload_n X 0 dL_law_504 rfl rfl ?_
  refine J_iload_n X 3 dL_law_505 rfl rfl ?_
  refine J_const X (1 : Int32) dL_law_506 (by decide) ?_
  refine J_iadd X dL_law_507 ?_
  refine J_topi (nI (i + 1)) (nI_add i 1) ?_
  refine J_sld X hS hbl (Nat.not_le.mpr hbl) (vp_in_nI (show i + 1 < L by omega) (by omega)) dL_law_508 ?_
  refine J_topi (xs (i + 1)) (congrArg xs (nI_clamp (show i + 1 < 2 ^ 31 by omega))) ?_
  refine J_aload_n X 0 dL_law_509 rfl rfl ?_
  refine J_iload_n X 3 dL_law_510 rfl rfl ?_
  refine J_const X (2 : Int32) dL_law_511 (by decide) ?_
  refine J_iadd X dL_law_512 ?_
  refine J_topi (nI (i + 2)) (nI_add i 2) ?_
  refine J_sld X hS hbl (Nat.not_le.mpr hbl) (vp_in_nI (show i + 2 < L by omega) (by omega)) dL_law_513 ?_
  refine J_topi (xs (i + 2)) (congrArg xs (nI_clamp (show i + 2 < 2 ^ 31 by omega))) ?_
  refine J_aload_n X 0 dL_law_514 rfl rfl ?_
  refine J_iload_n X 3 dL_law_515 rfl rfl ?_
  refine J_const X (3 : Int32) dL_law_516 (by decide) ?_
  refine J_iadd X dL_law_517 ?_
  refine J_topi (nI (i + 3)) (nI_add i 3) ?_
  refine J_sld X hS hbl (Nat.not_le.mpr hbl) (vp_in_nI (show i + 3 < L by omega) (by omega)) dL_law_518 ?_
  refine J_topi (xs (i + 3)) (congrArg xs (nI_clamp (show i + 3 < 2 ^ 31 by omega))) ?_
  refine J_mem (fun hA1 => ?_)
  refine J_callV X (rest := []) (rs := [.int r]) (c_X5_mended l (adX, d) (fun h => wX (adX, d) h ++ wM (adM, d) hm) (fun q => s.heap.size ≤ q) hA1 (isX_w (adX, d) (wM (adM, d) hm)) (xs (i + 1)) (xs (i + 2)) (xs (i + 3)) hx r hx' hr1) (isX_w (adX, d) (wM (adM, d) hm)).1 rfl rfl wd_456 wd_457 wd_458 wd_34 wd_459 hd_X5_mended ⟨(Nat.le_of_ble_eq_true rfl), (Nat.le_of_ble_eq_true rfl)⟩ ⟨Nat.le_refl _, Nat.le_refl _⟩ (Nat.le_of_ble_eq_true rfl) dL_law_519 rfl rfl ?_
  refine J_sw (o2 := (adM, d)) (emb2 := (fun h => wX (adX, d) hx' ++ wM (adM, d) h)) (h2 := hm) rfl rfl (fun hd _ => va_D_fst (by simp [wM]) hd) ?_
  refine J_aload_n XM 2 dL_law_522 rfl rfl ?_
  refine J_aload_n XM 0 dL_law_523 rfl rfl ?_
  refine J_iload_n XM 3 dL_law_524 rfl rfl ?_
  refine J_const XM (1 : Int32) dL_law_525 (by decide) ?_
  refine J_iadd XM dL_law_526 ?_
  refine J_topi (nI (i + 1)) (nI_add i 1) ?_
  refine J_sld XM hS hbl (Nat.not_le.mpr hbl) (vp_in_nI (show i + 1 < L by omega) (by omega)) dL_law_527 ?_
  refine J_topi (xs (i + 1)) (congrArg xs (nI_clamp (show i + 1 < 2 ^ 31 by omega))) ?_
  refine J_aload_n XM 0 dL_law_528 rfl rfl ?_
  refine J_iload_n XM 3 dL_law_529 rfl rfl ?_
  refine J_const XM (2 : Int32) dL_law_530 (by decide) ?_
  refine J_iadd XM dL_law_531 ?_
  refine J_topi (nI (i + 2)) (nI_add i 2) ?_
  refine J_sld XM hS hbl (Nat.not_le.mpr hbl) (vp_in_nI (show i + 2 < L by omega) (by omega)) dL_law_532 ?_
  refine J_topi (xs (i + 2)) (congrArg xs (nI_clamp (show i + 2 < 2 ^ 31 by omega))) ?_
  refine J_aload_n XM 0 dL_law_533 rfl rfl ?_
  refine J_iload_n XM 3 dL_law_534 rfl rfl ?_
  refine J_const XM (3 : Int32) dL_law_535 (by decide) ?_
  refine J_iadd XM dL_law_536 ?_
  refine J_topi (nI (i + 3)) (nI_add i 3) ?_
  refine J_sld XM hS hbl (Nat.not_le.mpr hbl) (vp_in_nI (show i + 3 < L by omega) (by omega)) dL_law_537 ?_
  refine J_topi (xs (i + 3)) (congrArg xs (nI_clamp (show i + 3 < 2 ^ 31 by omega))) ?_
  refine J_mem (fun hA2 => ?_)
  refine J_callV XM (rest := [.int r]) (rs := [.int r, .int r]) (c_X6_mended l (adM, d) (fun h => wX (adX, d) hx' ++ wM (adM, d) h) (fun q => s.heap.size ≤ q) hA2 (isM_w (adM, d) (wX (adX, d) hx')) (xs (i + 1)) (xs (i + 2)) (xs (i + 3)) hm r hm' hr2) (isM_w (adM, d) (wX (adX, d) hx')).1 rfl rfl wd_790 wd_791 wd_792 wd_41 wd_793 hd_X6_mended ⟨(Nat.le_of_ble_eq_true rfl), (Nat.le_of_ble_eq_true rfl)⟩ ⟨Nat.le_refl _, Nat.le_refl _⟩ (Nat.le_of_ble_eq_true rfl) dL_law_538 rfl rfl ?_
  refine J_sw (o2 := (adX, d)) (emb2 := (fun h => wX (adX, d) h ++ wM (adM, d) hm')) (h2 := hx') rfl rfl (fun hd _ => va_D_fst (by simp [wX]) hd) ?_
  refine J_icmp_eq (tgt := 937) X dL_law_541 (by decide) (fun _ => ?_) (fun c9 => absurd rfl c9)
  exact K _ _ hr3
set_option maxHeartbeats 4000000 in
set_option maxRecDepth 100000 in
theorem law_c14 {Rl : Hp → Hp → Prop} (H9 : op_pays Rl) (X : Cx p s m #[Value.ref b] meth c RL cL_law 4 ret (adX, d)) (hS : va_X b L xs s s.heap) (hbl : b < s.heap.size) (hL : L ≤ 384) (i : Nat) (hi : i + 6 ≤ L) (hx hm : Hp) (hr : Rl hx hm) (K : ∀ hx hm, Rl hx hm → J p l e room_1 s m #[Value.ref b] below meth c 55 4744 (lw_Z below #[Value.ref b] s) (adX, d) (fun h => wX (adX, d) h ++ wM (adM, d) hm) (fun q => s.heap.size ≤ q) s.heap 4 937 [(0, .ref b), (1, .ref (adX 0)), (2, .ref (adM 0)), (3, .int (nI i))] [] hx) : J p l e room_1 s m #[Value.ref b] below meth c 55 4744 (lw_Z below #[Value.ref b] s) (adX, d) (fun h => wX (adX, d) h ++ wM (adM, d) hm) (fun q => s.heap.size ≤ q) s.heap 4 546 [(0, .ref b), (1, .ref (adX 0)), (2, .ref (adM 0)), (3, .int (nI i))] [] hx := by
  have XM : Cx p s m #[Value.ref b] meth c RL cL_law 4 ret (adM, d) := X
  obtain ⟨r, hm', hr1, hr2, hr3⟩ := H9 hx hm (xs (i + 1)) (xs (i + 2)) (xs (i + 3)) (xs (i + 4)) hr
  refine J_aload_n X 1 dL_law_546 rfl rfl ?_
  refine J_aload_n X 0 dL_law_547 rfl rfl ?_
  refine J_iload_n X 3 dL_law_548 rfl rfl ?_
  refine J_const X (1 : Int32) dL_law_549 (by decide) ?_
  refine J_iadd X dL_law_550 ?_
  refine J_topi (nI (i + 1)) (nI_add i 1) ?_
  refine J_sld X hS hbl (Nat.not_le.mpr hbl) (vp_in_nI (show i + 1 < L by omega) (by omega)) dL_law_551 ?_
  refine J_topi (xs (i + 1)) (congrArg xs (nI_clamp (show i + 1 < 2 ^ 31 by omega))) ?_
  refine J_aload_n X 0 dL_law_552 rfl rfl ?_
  refine J_iload_n X 3 dL_law_553 rfl rfl ?_
  refine J_const X (2 : Int32) dL_law_554 (by decide) ?_
  refine J_iadd X dL_law_555 ?_
  refine J_topi (nI (i + 2)) (nI_add i 2) ?_
  refine J_sld X hS hbl (Nat.not_le.mpr hbl) (vp_in_nI (show i + 2 < L by omega) (by omega)) dL_law_556 ?_
  refine J_topi (xs (i + 2)) (congrArg xs (nI_clamp (show i + 2 < 2 ^ 31 by omega))) ?_
  refine J_aload_n X 0 dL_law_557 rfl rfl ?_
  refine J_iload_n X 3 dL_law_558 rfl rfl ?_
  refine J_const X (3 : Int32) dL_law_559 (by decide) ?_
  refine J_iadd X dL_law_560 ?_
  refine J_topi (nI (i + 3)) (nI_add i 3) ?_
  refine J_sld X hS hbl (Nat.not_le.mpr hbl) (vp_in_nI (show i + 3 < L by omega) (by omega)) dL_law_561 ?_
  refine J_topi (xs (i + 3)) (congrArg xs (nI_clamp (show i + 3 < 2 ^ 31 by omega))) ?_
  refine J_aload_n X 0 dL_law_562 rfl rfl ?_
  refine J_iload_n X 3 dL_law_563 rfl rfl ?_
  refine J_const X (4 : Int32) dL_law_564 (by decide) ?_
  refine J_iadd X dL_law_565 ?_
  refine J_topi (nI (i + 4)) (nI_add i 4) ?_
  refine J_sld X hS hbl (Nat.not_le.mpr hbl) (vp_in_nI (show i + 4 < L by omega) (by omega)) dL_law_566 ?_
  refine J_topi (xs (i + 4)) (congrArg xs (nI_clamp (show i + 4 < 2 ^ 31 by omega))) ?_
  refine J_mem (fun hA1 => ?_)
  refine J_callV X (rest := []) (rs := [.long r]) (c_X5_pays l (adX, d) (fun h => wX (adX, d) h ++ wM (adM, d) hm) (fun q => s.heap.size ≤ q) hA1 (isX_w (adX, d) (wM (adM, d) hm)) (xs (i + 1)) (xs (i + 2)) (xs (i + 3)) (xs (i + 4)) hx r hr1) (isX_w (adX, d) (wM (adM, d) hm)).1 rfl rfl wd_478 wd_479 wd_480 wd_34 wd_481 hd_X5_pays ⟨(Nat.le_of_ble_eq_true rfl), (Nat.le_of_ble_eq_true rfl)⟩ ⟨Nat.le_refl _, Nat.le_refl _⟩ (Nat.le_of_ble_eq_true rfl) dL_law_567 rfl rfl ?_
  refine J_sw (o2 := (adM, d)) (emb2 := (fun h => wX (adX, d) hx ++ wM (adM, d) h)) (h2 := hm) rfl rfl (fun hd _ => va_D_fst (by simp [wM]) hd) ?_
  refine J_aload_n XM 2 dL_law_570 rfl rfl ?_
  refine J_aload_n XM 0 dL_law_571 rfl rfl ?_
  refine J_iload_n XM 3 dL_law_572 rfl rfl ?_
  refine J_const XM (1 : Int32) dL_law_573 (by decide) ?_
  refine J_iadd XM dL_law_574 ?_
  refine J_topi (nI (i + 1)) (nI_add i 1) ?_
  refine J_sld XM hS hbl (Nat.not_le.mpr hbl) (vp_in_nI (show i + 1 < L by omega) (by omega)) dL_law_575 ?_
  refine J_topi (xs (i + 1)) (congrArg xs (nI_clamp (show i + 1 < 2 ^ 31 by omega))) ?_
  refine J_aload_n XM 0 dL_law_576 rfl rfl ?_
  refine J_iload_n XM 3 dL_law_577 rfl rfl ?_
  refine J_const XM (2 : Int32) dL_law_578 (by decide) ?_
  refine J_iadd XM dL_law_579 ?_
  refine J_topi (nI (i + 2)) (nI_add i 2) ?_
  refine J_sld XM hS hbl (Nat.not_le.mpr hbl) (vp_in_nI (show i + 2 < L by omega) (by omega)) dL_law_580 ?_
  refine J_topi (xs (i + 2)) (congrArg xs (nI_clamp (show i + 2 < 2 ^ 31 by omega))) ?_
  refine J_aload_n XM 0 dL_law_581 rfl rfl ?_
  refine J_iload_n XM 3 dL_law_582 rfl rfl ?_
  refine J_const XM (3 : Int32) dL_law_583 (by decide) ?_
  refine J_iadd XM dL_law_584 ?_
  refine J_topi (nI (i + 3)) (nI_add i 3) ?_
  refine J_sld XM hS hbl (Nat.not_le.mpr hbl) (vp_in_nI (show i + 3 < L by omega) (by omega)) dL_law_585 ?_
  refine J_topi (xs (i + 3)) (congrArg xs (nI_clamp (show i + 3 < 2 ^ 31 by omega))) ?_
  refine J_aload_n XM 0 dL_law_586 rfl rfl ?_
  refine J_iload_n XM 3 dL_law_587 rfl rfl ?_
  refine J_const XM (4 : Int32) dL_law_588 (by decide) ?_
  refine J_iadd XM dL_law_589 ?_
  refine J_topi (nI (i + 4)) (nI_add i 4) ?_
  refine J_sld XM hS hbl (Nat.not_le.mpr hbl) (vp_in_nI (show i + 4 < L by omega) (by omega)) dL_law_590 ?_
  refine J_topi (xs (i + 4)) (congrArg xs (nI_clamp (show i + 4 < 2 ^ 31 by omega))) ?_
  refine J_mem (fun hA2 => ?_)
  refine J_callV XM (rest := [.long r]) (rs := [.long r, .long r]) (c_X6_pays l (adM, d) (fun h => wX (adX, d) hx ++ wM (adM, d) h) (fun q => s.heap.size ≤ q) hA2 (isM_w (adM, d) (wX (adX, d) hx)) (xs (i + 1)) (xs (i + 2)) (xs (i + 3)) (xs (i + 4)) hm r hm' hr2) (isM_w (adM, d) (wX (adX, d) hx)).1 rfl rfl wd_794 wd_795 wd_796 wd_41 wd_797 hd_X6_pays ⟨(Nat.le_of_ble_eq_true rfl), (Nat.le_of_ble_eq_true rfl)⟩ ⟨Nat.le_refl _, Nat.le_refl _⟩ (Nat.le_of_ble_eq_true rfl) dL_law_591 rfl rfl ?_
  refine J_sw (o2 := (adX, d)) (emb2 := (fun h => wX (adX, d) h ++ wM (adM, d) hm')) (h2 := hx) rfl rfl (fun hd _ => va_D_fst (by simp [wX]) hd) ?_
  refine J_lcmp X dL_law_594 ?_
  refine J_if_eq (tgt := 937) X dL_law_595 (by decide) (fun _ => ?_) (fun c9 => absurd (lcmp_self r) c9)
  exact K _ _ hr3
set_option maxHeartbeats 4000000 in
set_option maxRecDepth 100000 in
theorem law_c15 {Rl : Hp → Hp → Prop} (H9 : op_seen Rl) (X : Cx p s m #[Value.ref b] meth c RL cL_law 4 ret (adX, d)) (hS : va_X b L xs s s.heap) (hbl : b < s.heap.size) (hL : L ≤ 384) (i : Nat) (hi : i + 6 ≤ L) (hx hm : Hp) (hr : Rl hx hm) (K : ∀ hx hm, Rl hx hm → J p l e room_1 s m #[Value.ref b] below meth c 55 4744 (lw_Z below #[Value.ref b] s) (adX, d) (fun h => wX (adX, d) h ++ wM (adM, d) hm) (fun q => s.heap.size ≤ q) s.heap 4 937 [(0, .ref b), (1, .ref (adX 0)), (2, .ref (adM 0)), (3, .int (nI i))] [] hx) : J p l e room_1 s m #[Value.ref b] below meth c 55 4744 (lw_Z below #[Value.ref b] s) (adX, d) (fun h => wX (adX, d) h ++ wM (adM, d) hm) (fun q => s.heap.size ≤ q) s.heap 4 600 [(0, .ref b), (1, .ref (adX 0)), (2, .ref (adM 0)), (3, .int (nI i))] [] hx := by
  have XM : Cx p s m #[Value.ref b] meth c RL cL_law 4 ret (adM, d) := X
  by_cases hz : xs (i + 1) = 0
  · obtain ⟨r, hx', hm', hr1, hr2, hr3⟩ := H9 hx hm ((0 : Int32)) (xs (i + 2)) (xs (i + 3)) hr (Or.inl rfl)
    refine J_aload_n X 1 dL_law_600 rfl rfl ?_
    refine J_aload_n X 0 dL_law_601 rfl rfl ?_
    refine J_iload_n X 3 dL_law_602 rfl rfl ?_
    refine J_const X (1 : Int32) dL_law_603 (by decide) ?_
    refine J_iadd X dL_law_604 ?_
    refine J_topi (nI (i + 1)) (nI_add i 1) ?_
    refine J_sld X hS hbl (Nat.not_le.mpr hbl) (vp_in_nI (show i + 1 < L by omega) (by omega)) dL_law_605 ?_
    refine J_topi (xs (i + 1)) (congrArg xs (nI_clamp (show i + 1 < 2 ^ 31 by omega))) ?_
    refine J_if_eq (tgt := 613) X dL_law_606 (by decide) (fun _ => ?_) (fun c9 => absurd hz c9)
    refine J_const X (0 : Int32) dL_law_613 (by decide) ?_
    refine J_aload_n X 0 dL_law_614 rfl rfl ?_
    refine J_iload_n X 3 dL_law_615 rfl rfl ?_
    refine J_const X (2 : Int32) dL_law_616 (by decide) ?_
    refine J_iadd X dL_law_617 ?_
    refine J_topi (nI (i + 2)) (nI_add i 2) ?_
    refine J_sld X hS hbl (Nat.not_le.mpr hbl) (vp_in_nI (show i + 2 < L by omega) (by omega)) dL_law_618 ?_
    refine J_topi (xs (i + 2)) (congrArg xs (nI_clamp (show i + 2 < 2 ^ 31 by omega))) ?_
    refine J_aload_n X 0 dL_law_619 rfl rfl ?_
    refine J_iload_n X 3 dL_law_620 rfl rfl ?_
    refine J_const X (3 : Int32) dL_law_621 (by decide) ?_
    refine J_iadd X dL_law_622 ?_
    refine J_topi (nI (i + 3)) (nI_add i 3) ?_
    refine J_sld X hS hbl (Nat.not_le.mpr hbl) (vp_in_nI (show i + 3 < L by omega) (by omega)) dL_law_623 ?_
    refine J_topi (xs (i + 3)) (congrArg xs (nI_clamp (show i + 3 < 2 ^ 31 by omega))) ?_
    refine J_mem (fun hA1 => ?_)
    refine J_callV X (rest := []) (rs := [.int r]) (c_X5_seen l (adX, d) (fun h => wX (adX, d) h ++ wM (adM, d) hm) (fun q => s.heap.size ≤ q) hA1 (isX_w (adX, d) (wM (adM, d) hm)) ((0 : Int32)) (xs (i + 2)) (xs (i + 3)) hx r hx' hr1) (isX_w (adX, d) (wM (adM, d) hm)).1 rfl rfl wd_493 wd_494 wd_495 wd_34 wd_496 hd_X5_seen ⟨(Nat.le_of_ble_eq_true rfl), (Nat.le_of_ble_eq_true rfl)⟩ ⟨Nat.le_refl _, Nat.le_refl _⟩ (Nat.le_of_ble_eq_true rfl) dL_law_624 rfl rfl ?_
    refine J_sw (o2 := (adM, d)) (emb2 := (fun h => wX (adX, d) hx' ++ wM (adM, d) h)) (h2 := hm) rfl rfl (fun hd _ => va_D_fst (by simp [wM]) hd) ?_
    refine J_aload_n XM 2 dL_law_627 rfl rfl ?_
    refine J_aload_n XM 0 dL_law_628 rfl rfl ?_
    refine J_iload_n XM 3 dL_law_629 rfl rfl ?_
    refine J_const XM (1 : Int32) dL_law_630 (by decide) ?_
    refine J_iadd XM dL_law_631 ?_
    refine J_topi (nI (i + 1)) (nI_add i 1) ?_
    refine J_sld XM hS hbl (Nat.not_le.mpr hbl) (vp_in_nI (show i + 1 < L by omega) (by omega)) dL_law_632 ?_
    refine J_topi (xs (i + 1)) (congrArg xs (nI_clamp (show i + 1 < 2 ^ 31 by omega))) ?_
    refine J_if_eq (tgt := 640) XM dL_law_633 (by decide) (fun _ => ?_) (fun c9 => absurd hz c9)
    refine J_const XM (0 : Int32) dL_law_640 (by decide) ?_
    refine J_aload_n XM 0 dL_law_641 rfl rfl ?_
    refine J_iload_n XM 3 dL_law_642 rfl rfl ?_
    refine J_const XM (2 : Int32) dL_law_643 (by decide) ?_
    refine J_iadd XM dL_law_644 ?_
    refine J_topi (nI (i + 2)) (nI_add i 2) ?_
    refine J_sld XM hS hbl (Nat.not_le.mpr hbl) (vp_in_nI (show i + 2 < L by omega) (by omega)) dL_law_645 ?_
    refine J_topi (xs (i + 2)) (congrArg xs (nI_clamp (show i + 2 < 2 ^ 31 by omega))) ?_
    refine J_aload_n XM 0 dL_law_646 rfl rfl ?_
    refine J_iload_n XM 3 dL_law_647 rfl rfl ?_
    refine J_const XM (3 : Int32) dL_law_648 (by decide) ?_
    refine J_iadd XM dL_law_649 ?_
    refine J_topi (nI (i + 3)) (nI_add i 3) ?_
    refine J_sld XM hS hbl (Nat.not_le.mpr hbl) (vp_in_nI (show i + 3 < L by omega) (by omega)) dL_law_650 ?_
    refine J_topi (xs (i + 3)) (congrArg xs (nI_clamp (show i + 3 < 2 ^ 31 by omega))) ?_
    refine J_mem (fun hA2 => ?_)
    refine J_callV XM (rest := [.int r]) (rs := [.int r, .int r]) (c_X6_seen l (adM, d) (fun h => wX (adX, d) hx' ++ wM (adM, d) h) (fun q => s.heap.size ≤ q) hA2 (isM_w (adM, d) (wX (adX, d) hx')) ((0 : Int32)) (xs (i + 2)) (xs (i + 3)) hm r hm' hr2) (isM_w (adM, d) (wX (adX, d) hx')).1 rfl rfl wd_803 wd_804 wd_805 wd_41 wd_806 hd_X6_seen ⟨(Nat.le_of_ble_eq_true rfl), (Nat.le_of_ble_eq_true rfl)⟩ ⟨Nat.le_refl _, Nat.le_refl _⟩ (Nat.le_of_ble_eq_true rfl) dL_law_651 rfl rfl ?_
    refine J_sw (o2 := (adX, d)) (emb2 := (fun h => wX (adX, d) h ++ wM (adM, d) hm')) (h2 := hx') rfl rfl (fun hd _ => va_D_fst (by simp [wX]) hd) ?_
    refine J_icmp_eq (tgt := 937) X dL_law_654 (by decide) (fun _ => ?_) (fun c9 => absurd rfl c9)
    exact K _ _ hr3
  · obtain ⟨r, hx', hm', hr1, hr2, hr3⟩ := H9 hx hm ((1 : Int32)) (xs (i + 2)) (xs (i + 3)) hr (Or.inr rfl)
    refine J_aload_n X 1 dL_law_600 rfl rfl ?_
    refine J_aload_n X 0 dL_law_601 rfl rfl ?_
    refine J_iload_n X 3 dL_law_602 rfl rfl ?_
    refine J_const X (1 : Int32) dL_law_603 (by decide) ?_
    refine J_iadd X dL_law_604 ?_
    refine J_topi (nI (i + 1)) (nI_add i 1) ?_
    refine J_sld X hS hbl (Nat.not_le.mpr hbl) (vp_in_nI (show i + 1 < L by omega) (by omega)) dL_law_605 ?_
    refine J_topi (xs (i + 1)) (congrArg xs (nI_clamp (show i + 1 < 2 ^ 31 by omega))) ?_
    refine J_if_eq (tgt := 613) X dL_law_606 (by decide) (fun c9 => absurd c9 hz) (fun _ => ?_)
    refine J_const X (1 : Int32) dL_law_609 (by decide) ?_
    refine J_goto (tgt := 614) X dL_law_610 (by decide) ?_
    refine J_aload_n X 0 dL_law_614 rfl rfl ?_
    refine J_iload_n X 3 dL_law_615 rfl rfl ?_
    refine J_const X (2 : Int32) dL_law_616 (by decide) ?_
    refine J_iadd X dL_law_617 ?_
    refine J_topi (nI (i + 2)) (nI_add i 2) ?_
    refine J_sld X hS hbl (Nat.not_le.mpr hbl) (vp_in_nI (show i + 2 < L by omega) (by omega)) dL_law_618 ?_
    refine J_topi (xs (i + 2)) (congrArg xs (nI_clamp (show i + 2 < 2 ^ 31 by omega))) ?_
    refine J_aload_n X 0 dL_law_619 rfl rfl ?_
    refine J_iload_n X 3 dL_law_620 rfl rfl ?_
    refine J_const X (3 : Int32) dL_law_621 (by decide) ?_
    refine J_iadd X dL_law_622 ?_
    refine J_topi (nI (i + 3)) (nI_add i 3) ?_
    refine J_sld X hS hbl (Nat.not_le.mpr hbl) (vp_in_nI (show i + 3 < L by omega) (by omega)) dL_law_623 ?_
    refine J_topi (xs (i + 3)) (congrArg xs (nI_clamp (show i + 3 < 2 ^ 31 by omega))) ?_
    refine J_mem (fun hA1 => ?_)
    refine J_callV X (rest := []) (rs := [.int r]) (c_X5_seen l (adX, d) (fun h => wX (adX, d) h ++ wM (adM, d) hm) (fun q => s.heap.size ≤ q) hA1 (isX_w (adX, d) (wM (adM, d) hm)) ((1 : Int32)) (xs (i + 2)) (xs (i + 3)) hx r hx' hr1) (isX_w (adX, d) (wM (adM, d) hm)).1 rfl rfl wd_493 wd_494 wd_495 wd_34 wd_496 hd_X5_seen ⟨(Nat.le_of_ble_eq_true rfl), (Nat.le_of_ble_eq_true rfl)⟩ ⟨Nat.le_refl _, Nat.le_refl _⟩ (Nat.le_of_ble_eq_true rfl) dL_law_624 rfl rfl ?_
    refine J_sw (o2 := (adM, d)) (emb2 := (fun h => wX (adX, d) hx' ++ wM (adM, d) h)) (h2 := hm) rfl rfl (fun hd _ => va_D_fst (by simp [wM]) hd) ?_
    refine J_aload_n XM 2 dL_law_627 rfl rfl ?_
    refine J_aload_n XM 0 dL_law_628 rfl rfl ?_
    refine J_iload_n XM 3 dL_law_629 rfl rfl ?_
    refine J_const XM (1 : Int32) dL_law_630 (by decide) ?_
    refine J_iadd XM dL_law_631 ?_
    refine J_topi (nI (i + 1)) (nI_add i 1) ?_
    refine J_sld XM hS hbl (Nat.not_le.mpr hbl) (vp_in_nI (show i + 1 < L by omega) (by omega)) dL_law_632 ?_
    refine J_topi (xs (i + 1)) (congrArg xs (nI_clamp (show i + 1 < 2 ^ 31 by omega))) ?_
    refine J_if_eq (tgt := 640) XM dL_law_633 (by decide) (fun c9 => absurd c9 hz) (fun _ => ?_)
    refine J_const XM (1 : Int32) dL_law_636 (by decide) ?_
    refine J_goto (tgt := 641) XM dL_law_637 (by decide) ?_
    refine J_aload_n XM 0 dL_law_641 rfl rfl ?_
    refine J_iload_n XM 3 dL_law_642 rfl rfl ?_
    refine J_const XM (2 : Int32) dL_law_643 (by decide) ?_
    refine J_iadd XM dL_law_644 ?_
    refine J_topi (nI (i + 2)) (nI_add i 2) ?_
    refine J_sld XM hS hbl (Nat.not_le.mpr hbl) (vp_in_nI (show i + 2 < L by omega) (by omega)) dL_law_645 ?_
    refine J_topi (xs (i + 2)) (congrArg xs (nI_clamp (show i + 2 < 2 ^ 31 by omega))) ?_
    refine J_aload_n XM 0 dL_law_646 rfl rfl ?_
    refine J_iload_n XM 3 dL_law_647 rfl rfl ?_
    refine J_const XM (3 : Int32) dL_law_648 (by decide) ?_
    refine J_iadd XM dL_law_649 ?_
    refine J_topi (nI (i + 3)) (nI_add i 3) ?_
    refine J_sld XM hS hbl (Nat.not_le.mpr hbl) (vp_in_nI (show i + 3 < L by omega) (by omega)) dL_law_650 ?_
    refine J_topi (xs (i + 3)) (congrArg xs (nI_clamp (show i + 3 < 2 ^ 31 by omega))) ?_
    refine J_mem (fun hA2 => ?_)
    refine J_callV XM (rest := [.int r]) (rs := [.int r, .int r]) (c_X6_seen l (adM, d) (fun h => wX (adX, d) hx' ++ wM (adM, d) h) (fun q => s.heap.size ≤ q) hA2 (isM_w (adM, d) (wX (adX, d) hx')) ((1 : Int32)) (xs (i + 2)) (xs (i + 3)) hm r hm' hr2) (isM_w (adM, d) (wX (adX, d) hx')).1 rfl rfl wd_803 wd_804 wd_805 wd_41 wd_806 hd_X6_seen ⟨(Nat.le_of_ble_eq_true rfl), (Nat.le_of_ble_eq_true rfl)⟩ ⟨Nat.le_refl _, Nat.le_refl _⟩ (Nat.le_of_ble_eq_true rfl) dL_law_651 rfl rfl ?_
    refine J_sw (o2 := (adX, d)) (emb2 := (fun h => wX (adX, d) h ++ wM (adM, d) hm')) (h2 := hx') rfl rfl (fun hd _ => va_D_fst (by simp [wX]) hd) ?_
    refine J_icmp_eq (tgt := 937) X dL_law_654 (by decide) (fun _ => ?_) (fun c9 => absurd rfl c9)
    exact K _ _ hr3
set_option maxHeartbeats 4000000 in
set_option maxRecDepth 100000 in
theorem law_c16 {Rl : Hp → Hp → Prop} (H9 : op_forget Rl) (X : Cx p s m #[Value.ref b] meth c RL cL_law 4 ret (adX, d)) (hS : va_X b L xs s s.heap) (hbl : b < s.heap.size) (hL : L ≤ 384) (i : Nat) (hi : i + 6 ≤ L) (hx hm : Hp) (hr : Rl hx hm) (K : ∀ hx hm, Rl hx hm → J p l e room_1 s m #[Value.ref b] below meth c 55 4744 (lw_Z below #[Value.ref b] s) (adX, d) (fun h => wX (adX, d) h ++ wM (adM, d) hm) (fun q => s.heap.size ≤ q) s.heap 4 937 [(0, .ref b), (1, .ref (adX 0)), (2, .ref (adM 0)), (3, .int (nI i))] [] hx) : J p l e room_1 s m #[Value.ref b] below meth c 55 4744 (lw_Z below #[Value.ref b] s) (adX, d) (fun h => wX (adX, d) h ++ wM (adM, d) hm) (fun q => s.heap.size ≤ q) s.heap 4 659 [(0, .ref b), (1, .ref (adX 0)), (2, .ref (adM 0)), (3, .int (nI i))] [] hx := by
  have XM : Cx p s m #[Value.ref b] meth c RL cL_law 4 ret (adM, d) := X
  obtain ⟨r, hx', hm', hr1, hr2, hr3⟩ := H9 hx hm  hr
  refine J_aload_n X 1 dL_law_659 rfl rfl ?_
  refine J_mem (fun hA1 => ?_)
  refine J_callV X (rest := []) (rs := [.int r]) (c_X5_forget l (adX, d) (fun h => wX (adX, d) h ++ wM (adM, d) hm) (fun q => s.heap.size ≤ q) hA1 (isX_w (adX, d) (wM (adM, d) hm))  hx r hx' hr1) (isX_w (adX, d) (wM (adM, d) hm)).1 rfl rfl wd_502 wd_503 wd_504 wd_34 wd_505 hd_X5_forget ⟨(Nat.le_of_ble_eq_true rfl), (Nat.le_of_ble_eq_true rfl)⟩ ⟨Nat.le_refl _, Nat.le_refl _⟩ (Nat.le_of_ble_eq_true rfl) dL_law_660 rfl rfl ?_
  refine J_sw (o2 := (adM, d)) (emb2 := (fun h => wX (adX, d) hx' ++ wM (adM, d) h)) (h2 := hm) rfl rfl (fun hd _ => va_D_fst (by simp [wM]) hd) ?_
  refine J_aload_n XM 2 dL_law_663 rfl rfl ?_
  refine J_mem (fun hA2 => ?_)
  refine J_callV XM (rest := [.int r]) (rs := [.int r, .int r]) (c_X6_forget l (adM, d) (fun h => wX (adX, d) hx' ++ wM (adM, d) h) (fun q => s.heap.size ≤ q) hA2 (isM_w (adM, d) (wX (adX, d) hx'))  hm r hm' hr2) (isM_w (adM, d) (wX (adX, d) hx')).1 rfl rfl wd_807 wd_808 wd_809 wd_41 wd_810 hd_X6_forget ⟨(Nat.le_of_ble_eq_true rfl), (Nat.le_of_ble_eq_true rfl)⟩ ⟨Nat.le_refl _, Nat.le_refl _⟩ (Nat.le_of_ble_eq_true rfl) dL_law_664 rfl rfl ?_
  refine J_sw (o2 := (adX, d)) (emb2 := (fun h => wX (adX, d) h ++ wM (adM, d) hm')) (h2 := hx') rfl rfl (fun hd _ => va_D_fst (by simp [wX]) hd) ?_
  refine J_icmp_eq (tgt := 937) X dL_law_667 (by decide) (fun _ => ?_) (fun c9 => absurd rfl c9)
  exact K _ _ hr3
set_option maxHeartbeats 4000000 in
set_option maxRecDepth 100000 in
theorem law_c17 {Rl : Hp → Hp → Prop} (H9 : op_who Rl) (X : Cx p s m #[Value.ref b] meth c RL cL_law 4 ret (adX, d)) (hS : va_X b L xs s s.heap) (hbl : b < s.heap.size) (hL : L ≤ 384) (i : Nat) (hi : i + 6 ≤ L) (hx hm : Hp) (hr : Rl hx hm) (K : ∀ hx hm, Rl hx hm → J p l e room_1 s m #[Value.ref b] below meth c 55 4744 (lw_Z below #[Value.ref b] s) (adX, d) (fun h => wX (adX, d) h ++ wM (adM, d) hm) (fun q => s.heap.size ≤ q) s.heap 4 937 [(0, .ref b), (1, .ref (adX 0)), (2, .ref (adM 0)), (3, .int (nI i))] [] hx) : J p l e room_1 s m #[Value.ref b] below meth c 55 4744 (lw_Z below #[Value.ref b] s) (adX, d) (fun h => wX (adX, d) h ++ wM (adM, d) hm) (fun q => s.heap.size ≤ q) s.heap 4 672 [(0, .ref b), (1, .ref (adX 0)), (2, .ref (adM 0)), (3, .int (nI i))] [] hx := by
  have XM : Cx p s m #[Value.ref b] meth c RL cL_law 4 ret (adM, d) := X
  obtain ⟨r, hx', hr1, hr2, hr3⟩ := H9 hx hm (xs (i + 1)) hr
  refine J_aload_n X 1 dL_law_672 rfl rfl ?_
  refine J_aload_n X 0 dL_law_673 rfl rfl ?_
  refine J_iload_n X 3 dL_law_674 rfl rfl ?_
  refine J_const X (1 : Int32) dL_law_675 (by decide) ?_
  refine J_iadd X dL_law_676 ?_
  refine J_topi (nI (i + 1)) (nI_add i 1) ?_
  refine J_sld X hS hbl (Nat.not_le.mpr hbl) (vp_in_nI (show i + 1 < L by omega) (by omega)) dL_law_677 ?_
  refine J_topi (xs (i + 1)) (congrArg xs (nI_clamp (show i + 1 < 2 ^ 31 by omega))) ?_
  refine J_mem (fun hA1 => ?_)
  refine J_callV X (rest := []) (rs := [.int r]) (c_X5_who l (adX, d) (fun h => wX (adX, d) h ++ wM (adM, d) hm) (fun q => s.heap.size ≤ q) hA1 (isX_w (adX, d) (wM (adM, d) hm)) (xs (i + 1)) hx r hx' hr1) (isX_w (adX, d) (wM (adM, d) hm)).1 rfl rfl wd_506 wd_507 wd_508 wd_34 wd_509 hd_X5_who ⟨(Nat.le_of_ble_eq_true rfl), (Nat.le_of_ble_eq_true rfl)⟩ ⟨Nat.le_refl _, Nat.le_refl _⟩ (Nat.le_of_ble_eq_true rfl) dL_law_678 rfl rfl ?_
  refine J_sw (o2 := (adM, d)) (emb2 := (fun h => wX (adX, d) hx' ++ wM (adM, d) h)) (h2 := hm) rfl rfl (fun hd _ => va_D_fst (by simp [wM]) hd) ?_
  refine J_aload_n XM 2 dL_law_681 rfl rfl ?_
  refine J_aload_n XM 0 dL_law_682 rfl rfl ?_
  refine J_iload_n XM 3 dL_law_683 rfl rfl ?_
  refine J_const XM (1 : Int32) dL_law_684 (by decide) ?_
  refine J_iadd XM dL_law_685 ?_
  refine J_topi (nI (i + 1)) (nI_add i 1) ?_
  refine J_sld XM hS hbl (Nat.not_le.mpr hbl) (vp_in_nI (show i + 1 < L by omega) (by omega)) dL_law_686 ?_
  refine J_topi (xs (i + 1)) (congrArg xs (nI_clamp (show i + 1 < 2 ^ 31 by omega))) ?_
  refine J_mem (fun hA2 => ?_)
  refine J_callV XM (rest := [.int r]) (rs := [.int r, .int r]) (c_X6_who l (adM, d) (fun h => wX (adX, d) hx' ++ wM (adM, d) h) (fun q => s.heap.size ≤ q) hA2 (isM_w (adM, d) (wX (adX, d) hx')) (xs (i + 1)) hm r hr2) (isM_w (adM, d) (wX (adX, d) hx')).1 rfl rfl wd_811 wd_812 wd_813 wd_41 wd_814 hd_X6_who ⟨(Nat.le_of_ble_eq_true rfl), (Nat.le_of_ble_eq_true rfl)⟩ ⟨Nat.le_refl _, Nat.le_refl _⟩ (Nat.le_of_ble_eq_true rfl) dL_law_687 rfl rfl ?_
  refine J_sw (o2 := (adX, d)) (emb2 := (fun h => wX (adX, d) h ++ wM (adM, d) hm)) (h2 := hx') rfl rfl (fun hd _ => va_D_fst (by simp [wX]) hd) ?_
  refine J_icmp_eq (tgt := 937) X dL_law_690 (by decide) (fun _ => ?_) (fun c9 => absurd rfl c9)
  exact K _ _ hr3
set_option maxHeartbeats 4000000 in
set_option maxRecDepth 100000 in
theorem law_c18 {Rl : Hp → Hp → Prop} (H9 : op_ask Rl) (X : Cx p s m #[Value.ref b] meth c RL cL_law 4 ret (adX, d)) (hS : va_X b L xs s s.heap) (hbl : b < s.heap.size) (hL : L ≤ 384) (i : Nat) (hi : i + 6 ≤ L) (hx hm : Hp) (hr : Rl hx hm) (K : ∀ hx hm, Rl hx hm → J p l e room_1 s m #[Value.ref b] below meth c 55 4744 (lw_Z below #[Value.ref b] s) (adX, d) (fun h => wX (adX, d) h ++ wM (adM, d) hm) (fun q => s.heap.size ≤ q) s.heap 4 937 [(0, .ref b), (1, .ref (adX 0)), (2, .ref (adM 0)), (3, .int (nI i))] [] hx) : J p l e room_1 s m #[Value.ref b] below meth c 55 4744 (lw_Z below #[Value.ref b] s) (adX, d) (fun h => wX (adX, d) h ++ wM (adM, d) hm) (fun q => s.heap.size ≤ q) s.heap 4 695 [(0, .ref b), (1, .ref (adX 0)), (2, .ref (adM 0)), (3, .int (nI i))] [] hx := by
  have XM : Cx p s m #[Value.ref b] meth c RL cL_law 4 ret (adM, d) := X
  obtain ⟨r, hx', hm', hr1, hr2, hr3⟩ := H9 hx hm (xs (i + 1)) hr
  refine J_aload_n X 1 dL_law_695 rfl rfl ?_
  refine J_aload_n X 0 dL_law_696 rfl rfl ?_
  refine J_iload_n X 3 dL_law_697 rfl rfl ?_
  refine J_const X (1 : Int32) dL_law_698 (by decide) ?_
  refine J_iadd X dL_law_699 ?_
  refine J_topi (nI (i + 1)) (nI_add i 1) ?_
  refine J_sld X hS hbl (Nat.not_le.mpr hbl) (vp_in_nI (show i + 1 < L by omega) (by omega)) dL_law_700 ?_
  refine J_topi (xs (i + 1)) (congrArg xs (nI_clamp (show i + 1 < 2 ^ 31 by omega))) ?_
  refine J_mem (fun hA1 => ?_)
  refine J_callV X (rest := []) (rs := [.int r]) (c_X5_ask l (adX, d) (fun h => wX (adX, d) h ++ wM (adM, d) hm) (fun q => s.heap.size ≤ q) hA1 (isX_w (adX, d) (wM (adM, d) hm)) (xs (i + 1)) hx r hx' hr1) (isX_w (adX, d) (wM (adM, d) hm)).1 rfl rfl wd_522 wd_523 wd_524 wd_34 wd_525 hd_X5_ask ⟨(Nat.le_of_ble_eq_true rfl), (Nat.le_of_ble_eq_true rfl)⟩ ⟨Nat.le_refl _, Nat.le_refl _⟩ (Nat.le_of_ble_eq_true rfl) dL_law_701 rfl rfl ?_
  refine J_sw (o2 := (adM, d)) (emb2 := (fun h => wX (adX, d) hx' ++ wM (adM, d) h)) (h2 := hm) rfl rfl (fun hd _ => va_D_fst (by simp [wM]) hd) ?_
  refine J_aload_n XM 2 dL_law_704 rfl rfl ?_
  refine J_aload_n XM 0 dL_law_705 rfl rfl ?_
  refine J_iload_n XM 3 dL_law_706 rfl rfl ?_
  refine J_const XM (1 : Int32) dL_law_707 (by decide) ?_
  refine J_iadd XM dL_law_708 ?_
  refine J_topi (nI (i + 1)) (nI_add i 1) ?_
  refine J_sld XM hS hbl (Nat.not_le.mpr hbl) (vp_in_nI (show i + 1 < L by omega) (by omega)) dL_law_709 ?_
  refine J_topi (xs (i + 1)) (congrArg xs (nI_clamp (show i + 1 < 2 ^ 31 by omega))) ?_
  refine J_mem (fun hA2 => ?_)
  refine J_callV XM (rest := [.int r]) (rs := [.int r, .int r]) (c_X6_ask l (adM, d) (fun h => wX (adX, d) hx' ++ wM (adM, d) h) (fun q => s.heap.size ≤ q) hA2 (isM_w (adM, d) (wX (adX, d) hx')) (xs (i + 1)) hm r hm' hr2) (isM_w (adM, d) (wX (adX, d) hx')).1 rfl rfl wd_822 wd_823 wd_824 wd_41 wd_825 hd_X6_ask ⟨(Nat.le_of_ble_eq_true rfl), (Nat.le_of_ble_eq_true rfl)⟩ ⟨Nat.le_refl _, Nat.le_refl _⟩ (Nat.le_of_ble_eq_true rfl) dL_law_710 rfl rfl ?_
  refine J_sw (o2 := (adX, d)) (emb2 := (fun h => wX (adX, d) h ++ wM (adM, d) hm')) (h2 := hx') rfl rfl (fun hd _ => va_D_fst (by simp [wX]) hd) ?_
  refine J_icmp_eq (tgt := 937) X dL_law_713 (by decide) (fun _ => ?_) (fun c9 => absurd rfl c9)
  exact K _ _ hr3
set_option maxHeartbeats 4000000 in
set_option maxRecDepth 100000 in
theorem law_c19 {Rl : Hp → Hp → Prop} (H9 : op_tacks Rl) (X : Cx p s m #[Value.ref b] meth c RL cL_law 4 ret (adX, d)) (hS : va_X b L xs s s.heap) (hbl : b < s.heap.size) (hL : L ≤ 384) (i : Nat) (hi : i + 6 ≤ L) (hx hm : Hp) (hr : Rl hx hm) (K : ∀ hx hm, Rl hx hm → J p l e room_1 s m #[Value.ref b] below meth c 55 4744 (lw_Z below #[Value.ref b] s) (adX, d) (fun h => wX (adX, d) h ++ wM (adM, d) hm) (fun q => s.heap.size ≤ q) s.heap 4 937 [(0, .ref b), (1, .ref (adX 0)), (2, .ref (adM 0)), (3, .int (nI i))] [] hx) : J p l e room_1 s m #[Value.ref b] below meth c 55 4744 (lw_Z below #[Value.ref b] s) (adX, d) (fun h => wX (adX, d) h ++ wM (adM, d) hm) (fun q => s.heap.size ≤ q) s.heap 4 718 [(0, .ref b), (1, .ref (adX 0)), (2, .ref (adM 0)), (3, .int (nI i))] [] hx := by
  have XM : Cx p s m #[Value.ref b] meth c RL cL_law 4 ret (adM, d) := X
  obtain ⟨r, hx', hm', hr1, hr2, hr3⟩ := H9 hx hm (xs (i + 1)) (xs (i + 2)) (xs (i + 3)) hr
  refine J_aload_n X 1 dL_law_718 rfl rfl ?_
  refine J_aload_n X 0 dL_law_719 rfl rfl ?_
  refine J_iload_n X 3 dL_law_720 rfl rfl ?_
  refine J_const X (1 : Int32) dL_law_721 (by decide) ?_
  refine J_iadd X dL_law_722 ?_
  refine J_topi (nI (i + 1)) (nI_add i 1) ?_
  refine J_sld X hS hbl (Nat.not_le.mpr hbl) (vp_in_nI (show i + 1 < L by omega) (by omega)) dL_law_723 ?_
  refine J_topi (xs (i + 1)) (congrArg xs (nI_clamp (show i + 1 < 2 ^ 31 by omega))) ?_
  refine J_aload_n X 0 dL_law_724 rfl rfl ?_
  refine J_iload_n X 3 dL_law_725 rfl rfl ?_
  refine J_const X (2 : Int32) dL_law_726 (by decide) ?_
  refine J_iadd X dL_law_727 ?_
  refine J_topi (nI (i + 2)) (nI_add i 2) ?_
  refine J_sld X hS hbl (Nat.not_le.mpr hbl) (vp_in_nI (show i + 2 < L by omega) (by omega)) dL_law_728 ?_
  refine J_topi (xs (i + 2)) (congrArg xs (nI_clamp (show i + 2 < 2 ^ 31 by omega))) ?_
  refine J_aload_n X 0 dL_law_729 rfl rfl ?_
  refine J_iload_n X 3 dL_law_730 rfl rfl ?_
  refine J_const X (3 : Int32) dL_law_731 (by decide) ?_
  refine J_iadd X dL_law_732 ?_
  refine J_topi (nI (i + 3)) (nI_add i 3) ?_
  refine J_sld X hS hbl (Nat.not_le.mpr hbl) (vp_in_nI (show i + 3 < L by omega) (by omega)) dL_law_733 ?_
  refine J_topi (xs (i + 3)) (congrArg xs (nI_clamp (show i + 3 < 2 ^ 31 by omega))) ?_
  refine J_mem (fun hA1 => ?_)
  refine J_callV X (rest := []) (rs := [.int r]) (c_X5_tacks l (adX, d) (fun h => wX (adX, d) h ++ wM (adM, d) hm) (fun q => s.heap.size ≤ q) hA1 (isX_w (adX, d) (wM (adM, d) hm)) (xs (i + 1)) (xs (i + 2)) (xs (i + 3)) hx r hx' hr1) (isX_w (adX, d) (wM (adM, d) hm)).1 rfl rfl wd_531 wd_532 wd_533 wd_34 wd_534 hd_X5_tacks ⟨(Nat.le_of_ble_eq_true rfl), (Nat.le_of_ble_eq_true rfl)⟩ ⟨Nat.le_refl _, Nat.le_refl _⟩ (Nat.le_of_ble_eq_true rfl) dL_law_734 rfl rfl ?_
  refine J_sw (o2 := (adM, d)) (emb2 := (fun h => wX (adX, d) hx' ++ wM (adM, d) h)) (h2 := hm) rfl rfl (fun hd _ => va_D_fst (by simp [wM]) hd) ?_
  refine J_aload_n XM 2 dL_law_737 rfl rfl ?_
  refine J_aload_n XM 0 dL_law_738 rfl rfl ?_
  refine J_iload_n XM 3 dL_law_739 rfl rfl ?_
  refine J_const XM (1 : Int32) dL_law_740 (by decide) ?_
  refine J_iadd XM dL_law_741 ?_
  refine J_topi (nI (i + 1)) (nI_add i 1) ?_
  refine J_sld XM hS hbl (Nat.not_le.mpr hbl) (vp_in_nI (show i + 1 < L by omega) (by omega)) dL_law_742 ?_
  refine J_topi (xs (i + 1)) (congrArg xs (nI_clamp (show i + 1 < 2 ^ 31 by omega))) ?_
  refine J_aload_n XM 0 dL_law_743 rfl rfl ?_
  refine J_iload_n XM 3 dL_law_744 rfl rfl ?_
  refine J_const XM (2 : Int32) dL_law_745 (by decide) ?_
  refine J_iadd XM dL_law_746 ?_
  refine J_topi (nI (i + 2)) (nI_add i 2) ?_
  refine J_sld XM hS hbl (Nat.not_le.mpr hbl) (vp_in_nI (show i + 2 < L by omega) (by omega)) dL_law_747 ?_
  refine J_topi (xs (i + 2)) (congrArg xs (nI_clamp (show i + 2 < 2 ^ 31 by omega))) ?_
  refine J_aload_n XM 0 dL_law_748 rfl rfl ?_
  refine J_iload_n XM 3 dL_law_749 rfl rfl ?_
  refine J_const XM (3 : Int32) dL_law_750 (by decide) ?_
  refine J_iadd XM dL_law_751 ?_
  refine J_topi (nI (i + 3)) (nI_add i 3) ?_
  refine J_sld XM hS hbl (Nat.not_le.mpr hbl) (vp_in_nI (show i + 3 < L by omega) (by omega)) dL_law_752 ?_
  refine J_topi (xs (i + 3)) (congrArg xs (nI_clamp (show i + 3 < 2 ^ 31 by omega))) ?_
  refine J_mem (fun hA2 => ?_)
  refine J_callV XM (rest := [.int r]) (rs := [.int r, .int r]) (c_X6_tacks l (adM, d) (fun h => wX (adX, d) hx' ++ wM (adM, d) h) (fun q => s.heap.size ≤ q) hA2 (isM_w (adM, d) (wX (adX, d) hx')) (xs (i + 1)) (xs (i + 2)) (xs (i + 3)) hm r hm' hr2) (isM_w (adM, d) (wX (adX, d) hx')).1 rfl rfl wd_826 wd_827 wd_828 wd_41 wd_829 hd_X6_tacks ⟨(Nat.le_of_ble_eq_true rfl), (Nat.le_of_ble_eq_true rfl)⟩ ⟨Nat.le_refl _, Nat.le_refl _⟩ (Nat.le_of_ble_eq_true rfl) dL_law_753 rfl rfl ?_
  refine J_sw (o2 := (adX, d)) (emb2 := (fun h => wX (adX, d) h ++ wM (adM, d) hm')) (h2 := hx') rfl rfl (fun hd _ => va_D_fst (by simp [wX]) hd) ?_
  refine J_icmp_eq (tgt := 937) X dL_law_756 (by decide) (fun _ => ?_) (fun c9 => absurd rfl c9)
  exact K _ _ hr3
set_option maxHeartbeats 4000000 in
set_option maxRecDepth 100000 in
theorem law_c20 {Rl : Hp → Hp → Prop} (H9 : op_wet Rl) (X : Cx p s m #[Value.ref b] meth c RL cL_law 4 ret (adX, d)) (hS : va_X b L xs s s.heap) (hbl : b < s.heap.size) (hL : L ≤ 384) (i : Nat) (hi : i + 6 ≤ L) (hx hm : Hp) (hr : Rl hx hm) (K : ∀ hx hm, Rl hx hm → J p l e room_1 s m #[Value.ref b] below meth c 55 4744 (lw_Z below #[Value.ref b] s) (adX, d) (fun h => wX (adX, d) h ++ wM (adM, d) hm) (fun q => s.heap.size ≤ q) s.heap 4 937 [(0, .ref b), (1, .ref (adX 0)), (2, .ref (adM 0)), (3, .int (nI i))] [] hx) : J p l e room_1 s m #[Value.ref b] below meth c 55 4744 (lw_Z below #[Value.ref b] s) (adX, d) (fun h => wX (adX, d) h ++ wM (adM, d) hm) (fun q => s.heap.size ≤ q) s.heap 4 761 [(0, .ref b), (1, .ref (adX 0)), (2, .ref (adM 0)), (3, .int (nI i))] [] hx := by
  have XM : Cx p s m #[Value.ref b] meth c RL cL_law 4 ret (adM, d) := X
  obtain ⟨r, hx', hm', hr1, hr2, hr3⟩ := H9 hx hm (xs (i + 1)) (xs (i + 2)) (xs (i + 3)) (xs (i + 4)) (xs (i + 5)) hr
  refine J_aload_n X 1 dL_law_761 rfl rfl ?_
  refine J_aload_n X 0 dL_law_762 rfl rfl ?_
  refine J_iload_n X 3 dL_law_763 rfl rfl ?_
  refine J_const X (1 : Int32) dL_law_764 (by decide) ?_
  refine J_iadd X dL_law_765 ?_
  refine J_topi (nI (i + 1)) (nI_add i 1) ?_
  refine J_sld X hS hbl (Nat.not_le.mpr hbl) (vp_in_nI (show i + 1 < L by omega) (by omega)) dL_law_766 ?_
  refine J_topi (xs (i + 1)) (congrArg xs (nI_clamp (show i + 1 < 2 ^ 31 by omega))) ?_
  refine J_aload_n X 0 dL_law_767 rfl rfl ?_
  refine J_iload_n X 3 dL_law_768 rfl rfl ?_
  refine J_const X (2 : Int32) dL_law_769 (by decide) ?_
  refine J_iadd X dL_law_770 ?_
  refine J_topi (nI (i + 2)) (nI_add i 2) ?_
  refine J_sld X hS hbl (Nat.not_le.mpr hbl) (vp_in_nI (show i + 2 < L by omega) (by omega)) dL_law_771 ?_
  refine J_topi (xs (i + 2)) (congrArg xs (nI_clamp (show i + 2 < 2 ^ 31 by omega))) ?_
  refine J_aload_n X 0 dL_law_772 rfl rfl ?_
  refine J_iload_n X 3 dL_law_773 rfl rfl ?_
  refine J_const X (3 : Int32) dL_law_774 (by decide) ?_
  refine J_iadd X dL_law_775 ?_
  refine J_topi (nI (i + 3)) (nI_add i 3) ?_
  refine J_sld X hS hbl (Nat.not_le.mpr hbl) (vp_in_nI (show i + 3 < L by omega) (by omega)) dL_law_776 ?_
  refine J_topi (xs (i + 3)) (congrArg xs (nI_clamp (show i + 3 < 2 ^ 31 by omega))) ?_
  refine J_aload_n X 0 dL_law_777 rfl rfl ?_
  refine J_iload_n X 3 dL_law_778 rfl rfl ?_
  refine J_const X (4 : Int32) dL_law_779 (by decide) ?_
  refine J_iadd X dL_law_780 ?_
  refine J_topi (nI (i + 4)) (nI_add i 4) ?_
  refine J_sld X hS hbl (Nat.not_le.mpr hbl) (vp_in_nI (show i + 4 < L by omega) (by omega)) dL_law_781 ?_
  refine J_topi (xs (i + 4)) (congrArg xs (nI_clamp (show i + 4 < 2 ^ 31 by omega))) ?_
  refine J_aload_n X 0 dL_law_782 rfl rfl ?_
  refine J_iload_n X 3 dL_law_783 rfl rfl ?_
  refine J_const X (5 : Int32) dL_law_784 (by decide) ?_
  refine J_iadd X dL_law_785 ?_
  refine J_topi (nI (i + 5)) (nI_add i 5) ?_
  refine J_sld X hS hbl (Nat.not_le.mpr hbl) (vp_in_nI (show i + 5 < L by omega) (by omega)) dL_law_786 ?_
  refine J_topi (xs (i + 5)) (congrArg xs (nI_clamp (show i + 5 < 2 ^ 31 by omega))) ?_
  refine J_mem (fun hA1 => ?_)
  refine J_callV X (rest := []) (rs := [.long r]) (c_X5_wet l (adX, d) (fun h => wX (adX, d) h ++ wM (adM, d) hm) (fun q => s.heap.size ≤ q) hA1 (isX_w (adX, d) (wM (adM, d) hm)) (xs (i + 1)) (xs (i + 2)) (xs (i + 3)) (xs (i + 4)) (xs (i + 5)) hx r hx' hr1) (isX_w (adX, d) (wM (adM, d) hm)).1 rfl rfl wd_539 wd_540 wd_541 wd_34 wd_542 hd_X5_wet ⟨(Nat.le_of_ble_eq_true rfl), (Nat.le_of_ble_eq_true rfl)⟩ ⟨Nat.le_refl _, Nat.le_refl _⟩ (Nat.le_of_ble_eq_true rfl) dL_law_787 rfl rfl ?_
  refine J_sw (o2 := (adM, d)) (emb2 := (fun h => wX (adX, d) hx' ++ wM (adM, d) h)) (h2 := hm) rfl rfl (fun hd _ => va_D_fst (by simp [wM]) hd) ?_
  refine J_aload_n XM 2 dL_law_790 rfl rfl ?_
  refine J_aload_n XM 0 dL_law_791 rfl rfl ?_
  refine J_iload_n XM 3 dL_law_792 rfl rfl ?_
  refine J_const XM (1 : Int32) dL_law_793 (by decide) ?_
  refine J_iadd XM dL_law_794 ?_
  refine J_topi (nI (i + 1)) (nI_add i 1) ?_
  refine J_sld XM hS hbl (Nat.not_le.mpr hbl) (vp_in_nI (show i + 1 < L by omega) (by omega)) dL_law_795 ?_
  refine J_topi (xs (i + 1)) (congrArg xs (nI_clamp (show i + 1 < 2 ^ 31 by omega))) ?_
  refine J_aload_n XM 0 dL_law_796 rfl rfl ?_
  refine J_iload_n XM 3 dL_law_797 rfl rfl ?_
  refine J_const XM (2 : Int32) dL_law_798 (by decide) ?_
  refine J_iadd XM dL_law_799 ?_
  refine J_topi (nI (i + 2)) (nI_add i 2) ?_
  refine J_sld XM hS hbl (Nat.not_le.mpr hbl) (vp_in_nI (show i + 2 < L by omega) (by omega)) dL_law_800 ?_
  refine J_topi (xs (i + 2)) (congrArg xs (nI_clamp (show i + 2 < 2 ^ 31 by omega))) ?_
  refine J_aload_n XM 0 dL_law_801 rfl rfl ?_
  refine J_iload_n XM 3 dL_law_802 rfl rfl ?_
  refine J_const XM (3 : Int32) dL_law_803 (by decide) ?_
  refine J_iadd XM dL_law_804 ?_
  refine J_topi (nI (i + 3)) (nI_add i 3) ?_
  refine J_sld XM hS hbl (Nat.not_le.mpr hbl) (vp_in_nI (show i + 3 < L by omega) (by omega)) dL_law_805 ?_
  refine J_topi (xs (i + 3)) (congrArg xs (nI_clamp (show i + 3 < 2 ^ 31 by omega))) ?_
  refine J_aload_n XM 0 dL_law_806 rfl rfl ?_
  refine J_iload_n XM 3 dL_law_807 rfl rfl ?_
  refine J_const XM (4 : Int32) dL_law_808 (by decide) ?_
  refine J_iadd XM dL_law_809 ?_
  refine J_topi (nI (i + 4)) (nI_add i 4) ?_
  refine J_sld XM hS hbl (Nat.not_le.mpr hbl) (vp_in_nI (show i + 4 < L by omega) (by omega)) dL_law_810 ?_
  refine J_topi (xs (i + 4)) (congrArg xs (nI_clamp (show i + 4 < 2 ^ 31 by omega))) ?_
  refine J_aload_n XM 0 dL_law_811 rfl rfl ?_
  refine J_iload_n XM 3 dL_law_812 rfl rfl ?_
  refine J_const XM (5 : Int32) dL_law_813 (by decide) ?_
  refine J_iadd XM dL_law_814 ?_
  refine J_topi (nI (i + 5)) (nI_add i 5) ?_
  refine J_sld XM hS hbl (Nat.not_le.mpr hbl) (vp_in_nI (show i + 5 < L by omega) (by omega)) dL_law_815 ?_
  refine J_topi (xs (i + 5)) (congrArg xs (nI_clamp (show i + 5 < 2 ^ 31 by omega))) ?_
  refine J_mem (fun hA2 => ?_)
  refine J_callV XM (rest := [.long r]) (rs := [.long r, .long r]) (c_X6_wet l (adM, d) (fun h => wX (adX, d) hx' ++ wM (adM, d) h) (fun q => s.heap.size ≤ q) hA2 (isM_w (adM, d) (wX (adX, d) hx')) (xs (i + 1)) (xs (i + 2)) (xs (i + 3)) (xs (i + 4)) (xs (i + 5)) hm r hm' hr2) (isM_w (adM, d) (wX (adX, d) hx')).1 rfl rfl wd_830 wd_831 wd_832 wd_41 wd_833 hd_X6_wet ⟨(Nat.le_of_ble_eq_true rfl), (Nat.le_of_ble_eq_true rfl)⟩ ⟨Nat.le_refl _, Nat.le_refl _⟩ (Nat.le_of_ble_eq_true rfl) dL_law_816 rfl rfl ?_
  refine J_sw (o2 := (adX, d)) (emb2 := (fun h => wX (adX, d) h ++ wM (adM, d) hm')) (h2 := hx') rfl rfl (fun hd _ => va_D_fst (by simp [wX]) hd) ?_
  refine J_lcmp X dL_law_819 ?_
  refine J_if_eq (tgt := 937) X dL_law_820 (by decide) (fun _ => ?_) (fun c9 => absurd (lcmp_self r) c9)
  exact K _ _ hr3
set_option maxHeartbeats 4000000 in
set_option maxRecDepth 100000 in
theorem law_c21 {Rl : Hp → Hp → Prop} (H9 : op_year Rl) (X : Cx p s m #[Value.ref b] meth c RL cL_law 4 ret (adX, d)) (hS : va_X b L xs s s.heap) (hbl : b < s.heap.size) (hL : L ≤ 384) (i : Nat) (hi : i + 6 ≤ L) (hx hm : Hp) (hr : Rl hx hm) (K : ∀ hx hm, Rl hx hm → J p l e room_1 s m #[Value.ref b] below meth c 55 4744 (lw_Z below #[Value.ref b] s) (adX, d) (fun h => wX (adX, d) h ++ wM (adM, d) hm) (fun q => s.heap.size ≤ q) s.heap 4 937 [(0, .ref b), (1, .ref (adX 0)), (2, .ref (adM 0)), (3, .int (nI i))] [] hx) : J p l e room_1 s m #[Value.ref b] below meth c 55 4744 (lw_Z below #[Value.ref b] s) (adX, d) (fun h => wX (adX, d) h ++ wM (adM, d) hm) (fun q => s.heap.size ≤ q) s.heap 4 825 [(0, .ref b), (1, .ref (adX 0)), (2, .ref (adM 0)), (3, .int (nI i))] [] hx := by
  have XM : Cx p s m #[Value.ref b] meth c RL cL_law 4 ret (adM, d) := X
  obtain ⟨r, hx', hm', hr1, hr2, hr3⟩ := H9 hx hm (xs (i + 1)) (xs (i + 2)) (xs (i + 3)) hr
  refine J_aload_n X 1 dL_law_825 rfl rfl ?_
  refine J_aload_n X 0 dL_law_826 rfl rfl ?_
  refine J_iload_n X 3 dL_law_827 rfl rfl ?_
  refine J_const X (1 : Int32) dL_law_828 (by decide) ?_
  refine J_iadd X dL_law_829 ?_
  refine J_topi (nI (i + 1)) (nI_add i 1) ?_
  refine J_sld X hS hbl (Nat.not_le.mpr hbl) (vp_in_nI (show i + 1 < L by omega) (by omega)) dL_law_830 ?_
  refine J_topi (xs (i + 1)) (congrArg xs (nI_clamp (show i + 1 < 2 ^ 31 by omega))) ?_
  refine J_aload_n X 0 dL_law_831 rfl rfl ?_
  refine J_iload_n X 3 dL_law_832 rfl rfl ?_
  refine J_const X (2 : Int32) dL_law_833 (by decide) ?_
  refine J_iadd X dL_law_834 ?_
  refine J_topi (nI (i + 2)) (nI_add i 2) ?_
  refine J_sld X hS hbl (Nat.not_le.mpr hbl) (vp_in_nI (show i + 2 < L by omega) (by omega)) dL_law_835 ?_
  refine J_topi (xs (i + 2)) (congrArg xs (nI_clamp (show i + 2 < 2 ^ 31 by omega))) ?_
  refine J_aload_n X 0 dL_law_836 rfl rfl ?_
  refine J_iload_n X 3 dL_law_837 rfl rfl ?_
  refine J_const X (3 : Int32) dL_law_838 (by decide) ?_
  refine J_iadd X dL_law_839 ?_
  refine J_topi (nI (i + 3)) (nI_add i 3) ?_
  refine J_sld X hS hbl (Nat.not_le.mpr hbl) (vp_in_nI (show i + 3 < L by omega) (by omega)) dL_law_840 ?_
  refine J_topi (xs (i + 3)) (congrArg xs (nI_clamp (show i + 3 < 2 ^ 31 by omega))) ?_
  refine J_mem (fun hA1 => ?_)
  refine J_callV X (rest := []) (rs := [.int r]) (c_X5_year l (adX, d) (fun h => wX (adX, d) h ++ wM (adM, d) hm) (fun q => s.heap.size ≤ q) hA1 (isX_w (adX, d) (wM (adM, d) hm)) (xs (i + 1)) (xs (i + 2)) (xs (i + 3)) hx r hx' hr1) (isX_w (adX, d) (wM (adM, d) hm)).1 rfl rfl wd_550 wd_551 wd_552 wd_34 wd_553 hd_X5_year ⟨(Nat.le_of_ble_eq_true rfl), (Nat.le_of_ble_eq_true rfl)⟩ ⟨Nat.le_refl _, Nat.le_refl _⟩ (Nat.le_of_ble_eq_true rfl) dL_law_841 rfl rfl ?_
  refine J_sw (o2 := (adM, d)) (emb2 := (fun h => wX (adX, d) hx' ++ wM (adM, d) h)) (h2 := hm) rfl rfl (fun hd _ => va_D_fst (by simp [wM]) hd) ?_
  refine J_aload_n XM 2 dL_law_844 rfl rfl ?_
  refine J_aload_n XM 0 dL_law_845 rfl rfl ?_
  refine J_iload_n XM 3 dL_law_846 rfl rfl ?_
  refine J_const XM (1 : Int32) dL_law_847 (by decide) ?_
  refine J_iadd XM dL_law_848 ?_
  refine J_topi (nI (i + 1)) (nI_add i 1) ?_
  refine J_sld XM hS hbl (Nat.not_le.mpr hbl) (vp_in_nI (show i + 1 < L by omega) (by omega)) dL_law_849 ?_
  refine J_topi (xs (i + 1)) (congrArg xs (nI_clamp (show i + 1 < 2 ^ 31 by omega))) ?_
  refine J_aload_n XM 0 dL_law_850 rfl rfl ?_
  refine J_iload_n XM 3 dL_law_851 rfl rfl ?_
  refine J_const XM (2 : Int32) dL_law_852 (by decide) ?_
  refine J_iadd XM dL_law_853 ?_
  refine J_topi (nI (i + 2)) (nI_add i 2) ?_
  refine J_sld XM hS hbl (Nat.not_le.mpr hbl) (vp_in_nI (show i + 2 < L by omega) (by omega)) dL_law_854 ?_
  refine J_topi (xs (i + 2)) (congrArg xs (nI_clamp (show i + 2 < 2 ^ 31 by omega))) ?_
  refine J_aload_n XM 0 dL_law_855 rfl rfl ?_
  refine J_iload_n XM 3 dL_law_856 rfl rfl ?_
  refine J_const XM (3 : Int32) dL_law_857 (by decide) ?_
  refine J_iadd XM dL_law_858 ?_
  refine J_topi (nI (i + 3)) (nI_add i 3) ?_
  refine J_sld XM hS hbl (Nat.not_le.mpr hbl) (vp_in_nI (show i + 3 < L by omega) (by omega)) dL_law_859 ?_
  refine J_topi (xs (i + 3)) (congrArg xs (nI_clamp (show i + 3 < 2 ^ 31 by omega))) ?_
  refine J_mem (fun hA2 => ?_)
  refine J_callV XM (rest := [.int r]) (rs := [.int r, .int r]) (c_X6_year l (adM, d) (fun h => wX (adX, d) hx' ++ wM (adM, d) h) (fun q => s.heap.size ≤ q) hA2 (isM_w (adM, d) (wX (adX, d) hx')) (xs (i + 1)) (xs (i + 2)) (xs (i + 3)) hm r hm' hr2) (isM_w (adM, d) (wX (adX, d) hx')).1 rfl rfl wd_835 wd_836 wd_837 wd_41 wd_838 hd_X6_year ⟨(Nat.le_of_ble_eq_true rfl), (Nat.le_of_ble_eq_true rfl)⟩ ⟨Nat.le_refl _, Nat.le_refl _⟩ (Nat.le_of_ble_eq_true rfl) dL_law_860 rfl rfl ?_
  refine J_sw (o2 := (adX, d)) (emb2 := (fun h => wX (adX, d) h ++ wM (adM, d) hm')) (h2 := hx') rfl rfl (fun hd _ => va_D_fst (by simp [wX]) hd) ?_
  refine J_icmp_eq (tgt := 937) X dL_law_863 (by decide) (fun _ => ?_) (fun c9 => absurd rfl c9)
  exact K _ _ hr3
set_option maxHeartbeats 4000000 in
set_option maxRecDepth 100000 in
theorem law_c22 {Rl : Hp → Hp → Prop} (H9 : op_image Rl) (X : Cx p s m #[Value.ref b] meth c RL cL_law 4 ret (adX, d)) (hS : va_X b L xs s s.heap) (hbl : b < s.heap.size) (hL : L ≤ 384) (i : Nat) (hi : i + 6 ≤ L) (hx hm : Hp) (hr : Rl hx hm) (K : ∀ hx hm, Rl hx hm → J p l e room_1 s m #[Value.ref b] below meth c 55 4744 (lw_Z below #[Value.ref b] s) (adX, d) (fun h => wX (adX, d) h ++ wM (adM, d) hm) (fun q => s.heap.size ≤ q) s.heap 4 937 [(0, .ref b), (1, .ref (adX 0)), (2, .ref (adM 0)), (3, .int (nI i))] [] hx) : J p l e room_1 s m #[Value.ref b] below meth c 55 4744 (lw_Z below #[Value.ref b] s) (adX, d) (fun h => wX (adX, d) h ++ wM (adM, d) hm) (fun q => s.heap.size ≤ q) s.heap 4 868 [(0, .ref b), (1, .ref (adX 0)), (2, .ref (adM 0)), (3, .int (nI i))] [] hx := by
  have XM : Cx p s m #[Value.ref b] meth c RL cL_law 4 ret (adM, d) := X
  obtain ⟨r, hx', hm', hr1, hr2, hr3⟩ := H9 hx hm (xs (i + 1)) hr
  refine J_aload_n X 1 dL_law_868 rfl rfl ?_
  refine J_aload_n X 0 dL_law_869 rfl rfl ?_
  refine J_iload_n X 3 dL_law_870 rfl rfl ?_
  refine J_const X (1 : Int32) dL_law_871 (by decide) ?_
  refine J_iadd X dL_law_872 ?_
  refine J_topi (nI (i + 1)) (nI_add i 1) ?_
  refine J_sld X hS hbl (Nat.not_le.mpr hbl) (vp_in_nI (show i + 1 < L by omega) (by omega)) dL_law_873 ?_
  refine J_topi (xs (i + 1)) (congrArg xs (nI_clamp (show i + 1 < 2 ^ 31 by omega))) ?_
  refine J_mem (fun hA1 => ?_)
  refine J_callV X (rest := []) (rs := [.int r]) (c_X5_image l (adX, d) (fun h => wX (adX, d) h ++ wM (adM, d) hm) (fun q => s.heap.size ≤ q) hA1 (isX_w (adX, d) (wM (adM, d) hm)) (xs (i + 1)) hx r hx' hr1) (isX_w (adX, d) (wM (adM, d) hm)).1 rfl rfl wd_568 wd_569 wd_570 wd_34 wd_571 hd_X5_image ⟨(Nat.le_of_ble_eq_true rfl), (Nat.le_of_ble_eq_true rfl)⟩ ⟨Nat.le_refl _, Nat.le_refl _⟩ (Nat.le_of_ble_eq_true rfl) dL_law_874 rfl rfl ?_
  refine J_sw (o2 := (adM, d)) (emb2 := (fun h => wX (adX, d) hx' ++ wM (adM, d) h)) (h2 := hm) rfl rfl (fun hd _ => va_D_fst (by simp [wM]) hd) ?_
  refine J_aload_n XM 2 dL_law_877 rfl rfl ?_
  refine J_aload_n XM 0 dL_law_878 rfl rfl ?_
  refine J_iload_n XM 3 dL_law_879 rfl rfl ?_
  refine J_const XM (1 : Int32) dL_law_880 (by decide) ?_
  refine J_iadd XM dL_law_881 ?_
  refine J_topi (nI (i + 1)) (nI_add i 1) ?_
  refine J_sld XM hS hbl (Nat.not_le.mpr hbl) (vp_in_nI (show i + 1 < L by omega) (by omega)) dL_law_882 ?_
  refine J_topi (xs (i + 1)) (congrArg xs (nI_clamp (show i + 1 < 2 ^ 31 by omega))) ?_
  refine J_mem (fun hA2 => ?_)
  refine J_callV XM (rest := [.int r]) (rs := [.int r, .int r]) (c_X6_image l (adM, d) (fun h => wX (adX, d) hx' ++ wM (adM, d) h) (fun q => s.heap.size ≤ q) hA2 (isM_w (adM, d) (wX (adX, d) hx')) (xs (i + 1)) hm r hm' hr2) (isM_w (adM, d) (wX (adX, d) hx')).1 rfl rfl wd_840 wd_841 wd_842 wd_41 wd_843 hd_X6_image ⟨(Nat.le_of_ble_eq_true rfl), (Nat.le_of_ble_eq_true rfl)⟩ ⟨Nat.le_refl _, Nat.le_refl _⟩ (Nat.le_of_ble_eq_true rfl) dL_law_883 rfl rfl ?_
  refine J_sw (o2 := (adX, d)) (emb2 := (fun h => wX (adX, d) h ++ wM (adM, d) hm')) (h2 := hx') rfl rfl (fun hd _ => va_D_fst (by simp [wX]) hd) ?_
  refine J_icmp_eq (tgt := 937) X dL_law_886 (by decide) (fun _ => ?_) (fun c9 => absurd rfl c9)
  exact K _ _ hr3
set_option maxHeartbeats 4000000 in
set_option maxRecDepth 100000 in
theorem law_c23 {Rl : Hp → Hp → Prop} (H9 : op_restore Rl) (X : Cx p s m #[Value.ref b] meth c RL cL_law 4 ret (adX, d)) (hS : va_X b L xs s s.heap) (hbl : b < s.heap.size) (hL : L ≤ 384) (i : Nat) (hi : i + 6 ≤ L) (hx hm : Hp) (hr : Rl hx hm) (K : ∀ hx hm, Rl hx hm → J p l e room_1 s m #[Value.ref b] below meth c 55 4744 (lw_Z below #[Value.ref b] s) (adX, d) (fun h => wX (adX, d) h ++ wM (adM, d) hm) (fun q => s.heap.size ≤ q) s.heap 4 937 [(0, .ref b), (1, .ref (adX 0)), (2, .ref (adM 0)), (3, .int (nI i))] [] hx) : J p l e room_1 s m #[Value.ref b] below meth c 55 4744 (lw_Z below #[Value.ref b] s) (adX, d) (fun h => wX (adX, d) h ++ wM (adM, d) hm) (fun q => s.heap.size ≤ q) s.heap 4 891 [(0, .ref b), (1, .ref (adX 0)), (2, .ref (adM 0)), (3, .int (nI i))] [] hx := by
  have XM : Cx p s m #[Value.ref b] meth c RL cL_law 4 ret (adM, d) := X
  obtain ⟨r, hx', hm', hr1, hr2, hr3⟩ := H9 hx hm (xs (i + 1)) hr
  refine J_aload_n X 1 dL_law_891 rfl rfl ?_
  refine J_aload_n X 0 dL_law_892 rfl rfl ?_
  refine J_iload_n X 3 dL_law_893 rfl rfl ?_
  refine J_const X (1 : Int32) dL_law_894 (by decide) ?_
  refine J_iadd X dL_law_895 ?_
  refine J_topi (nI (i + 1)) (nI_add i 1) ?_
  refine J_sld X hS hbl (Nat.not_le.mpr hbl) (vp_in_nI (show i + 1 < L by omega) (by omega)) dL_law_896 ?_
  refine J_topi (xs (i + 1)) (congrArg xs (nI_clamp (show i + 1 < 2 ^ 31 by omega))) ?_
  refine J_mem (fun hA1 => ?_)
  refine J_callV X (rest := []) (rs := [.int r]) (c_X5_restore l (adX, d) (fun h => wX (adX, d) h ++ wM (adM, d) hm) (fun q => s.heap.size ≤ q) hA1 (isX_w (adX, d) (wM (adM, d) hm)) (xs (i + 1)) hx r hx' hr1) (isX_w (adX, d) (wM (adM, d) hm)).1 rfl rfl wd_577 wd_578 wd_579 wd_34 wd_580 hd_X5_restore ⟨(Nat.le_of_ble_eq_true rfl), (Nat.le_of_ble_eq_true rfl)⟩ ⟨Nat.le_refl _, Nat.le_refl _⟩ (Nat.le_of_ble_eq_true rfl) dL_law_897 rfl rfl ?_
  refine J_sw (o2 := (adM, d)) (emb2 := (fun h => wX (adX, d) hx' ++ wM (adM, d) h)) (h2 := hm) rfl rfl (fun hd _ => va_D_fst (by simp [wM]) hd) ?_
  refine J_aload_n XM 2 dL_law_900 rfl rfl ?_
  refine J_aload_n XM 0 dL_law_901 rfl rfl ?_
  refine J_iload_n XM 3 dL_law_902 rfl rfl ?_
  refine J_const XM (1 : Int32) dL_law_903 (by decide) ?_
  refine J_iadd XM dL_law_904 ?_
  refine J_topi (nI (i + 1)) (nI_add i 1) ?_
  refine J_sld XM hS hbl (Nat.not_le.mpr hbl) (vp_in_nI (show i + 1 < L by omega) (by omega)) dL_law_905 ?_
  refine J_topi (xs (i + 1)) (congrArg xs (nI_clamp (show i + 1 < 2 ^ 31 by omega))) ?_
  refine J_mem (fun hA2 => ?_)
  refine J_callV XM (rest := [.int r]) (rs := [.int r, .int r]) (c_X6_restore l (adM, d) (fun h => wX (adX, d) hx' ++ wM (adM, d) h) (fun q => s.heap.size ≤ q) hA2 (isM_w (adM, d) (wX (adX, d) hx')) (xs (i + 1)) hm r hm' hr2) (isM_w (adM, d) (wX (adX, d) hx')).1 rfl rfl wd_844 wd_845 wd_846 wd_41 wd_847 hd_X6_restore ⟨(Nat.le_of_ble_eq_true rfl), (Nat.le_of_ble_eq_true rfl)⟩ ⟨Nat.le_refl _, Nat.le_refl _⟩ (Nat.le_of_ble_eq_true rfl) dL_law_906 rfl rfl ?_
  refine J_sw (o2 := (adX, d)) (emb2 := (fun h => wX (adX, d) h ++ wM (adM, d) hm')) (h2 := hx') rfl rfl (fun hd _ => va_D_fst (by simp [wX]) hd) ?_
  refine J_icmp_eq (tgt := 937) X dL_law_909 (by decide) (fun _ => ?_) (fun c9 => absurd rfl c9)
  exact K _ _ hr3
set_option maxHeartbeats 4000000 in
set_option maxRecDepth 100000 in
theorem law_c24 {Rl : Hp → Hp → Prop} (H9 : op_told Rl) (X : Cx p s m #[Value.ref b] meth c RL cL_law 4 ret (adX, d)) (hS : va_X b L xs s s.heap) (hbl : b < s.heap.size) (hL : L ≤ 384) (i : Nat) (hi : i + 6 ≤ L) (hx hm : Hp) (hr : Rl hx hm) (K : ∀ hx hm, Rl hx hm → J p l e room_1 s m #[Value.ref b] below meth c 55 4744 (lw_Z below #[Value.ref b] s) (adX, d) (fun h => wX (adX, d) h ++ wM (adM, d) hm) (fun q => s.heap.size ≤ q) s.heap 4 937 [(0, .ref b), (1, .ref (adX 0)), (2, .ref (adM 0)), (3, .int (nI i))] [] hx) : J p l e room_1 s m #[Value.ref b] below meth c 55 4744 (lw_Z below #[Value.ref b] s) (adX, d) (fun h => wX (adX, d) h ++ wM (adM, d) hm) (fun q => s.heap.size ≤ q) s.heap 4 914 [(0, .ref b), (1, .ref (adX 0)), (2, .ref (adM 0)), (3, .int (nI i))] [] hx := by
  have XM : Cx p s m #[Value.ref b] meth c RL cL_law 4 ret (adM, d) := X
  obtain ⟨r, hm', hr1, hr2, hr3⟩ := H9 hx hm (xs (i + 1)) hr
  refine J_aload_n X 1 dL_law_914 rfl rfl ?_
  refine J_aload_n X 0 dL_law_915 rfl rfl ?_
  refine J_iload_n X 3 dL_law_916 rfl rfl ?_
  refine J_const X (1 : Int32) dL_law_917 (by decide) ?_
  refine J_iadd X dL_law_918 ?_
  refine J_topi (nI (i + 1)) (nI_add i 1) ?_
  refine J_sld X hS hbl (Nat.not_le.mpr hbl) (vp_in_nI (show i + 1 < L by omega) (by omega)) dL_law_919 ?_
  refine J_topi (xs (i + 1)) (congrArg xs (nI_clamp (show i + 1 < 2 ^ 31 by omega))) ?_
  refine J_mem (fun hA1 => ?_)
  refine J_callV X (rest := []) (rs := [.int r]) (c_X5_told l (adX, d) (fun h => wX (adX, d) h ++ wM (adM, d) hm) (fun q => s.heap.size ≤ q) hA1 (isX_w (adX, d) (wM (adM, d) hm)) (xs (i + 1)) hx r hr1) (isX_w (adX, d) (wM (adM, d) hm)).1 rfl rfl wd_581 wd_582 wd_583 wd_34 wd_584 hd_X5_told ⟨(Nat.le_of_ble_eq_true rfl), (Nat.le_of_ble_eq_true rfl)⟩ ⟨Nat.le_refl _, Nat.le_refl _⟩ (Nat.le_of_ble_eq_true rfl) dL_law_920 rfl rfl ?_
  refine J_sw (o2 := (adM, d)) (emb2 := (fun h => wX (adX, d) hx ++ wM (adM, d) h)) (h2 := hm) rfl rfl (fun hd _ => va_D_fst (by simp [wM]) hd) ?_
  refine J_aload_n XM 2 dL_law_923 rfl rfl ?_
  refine J_aload_n XM 0 dL_law_924 rfl rfl ?_
  refine J_iload_n XM 3 dL_law_925 rfl rfl ?_
  refine J_const XM (1 : Int32) dL_law_926 (by decide) ?_
  refine J_iadd XM dL_law_927 ?_
  refine J_topi (nI (i + 1)) (nI_add i 1) ?_
  refine J_sld XM hS hbl (Nat.not_le.mpr hbl) (vp_in_nI (show i + 1 < L by omega) (by omega)) dL_law_928 ?_
  refine J_topi (xs (i + 1)) (congrArg xs (nI_clamp (show i + 1 < 2 ^ 31 by omega))) ?_
  refine J_mem (fun hA2 => ?_)
  refine J_callV XM (rest := [.int r]) (rs := [.int r, .int r]) (c_X6_told l (adM, d) (fun h => wX (adX, d) hx ++ wM (adM, d) h) (fun q => s.heap.size ≤ q) hA2 (isM_w (adM, d) (wX (adX, d) hx)) (xs (i + 1)) hm r hm' hr2) (isM_w (adM, d) (wX (adX, d) hx)).1 rfl rfl wd_848 wd_849 wd_850 wd_41 wd_851 hd_X6_told ⟨(Nat.le_of_ble_eq_true rfl), (Nat.le_of_ble_eq_true rfl)⟩ ⟨Nat.le_refl _, Nat.le_refl _⟩ (Nat.le_of_ble_eq_true rfl) dL_law_929 rfl rfl ?_
  refine J_sw (o2 := (adX, d)) (emb2 := (fun h => wX (adX, d) h ++ wM (adM, d) hm')) (h2 := hx) rfl rfl (fun hd _ => va_D_fst (by simp [wX]) hd) ?_
  refine J_icmp_eq (tgt := 937) X dL_law_932 (by decide) (fun _ => ?_) (fun c9 => absurd rfl c9)
  exact K _ _ hr3
theorem law_cond {L i : Nat} (hL : L ≤ 384) (hi : i ≤ L) (h : ¬ (nI L - (6 : Int32) < nI i)) : i + 6 ≤ L := by
  rcases Nat.lt_or_ge L 6 with q | q
  · exfalso
    apply h
    have h1 : nI L - nI 6 < 0 := pk_sneg (by omega) q
    have h2 : (0 : Int32) ≤ nI i := nI_pos' (by omega)
    rw [Int32.lt_iff_toInt_lt] at h1 ⊢
    rw [Int32.le_iff_toInt_le] at h2
    exact Int.lt_of_lt_of_le h1 h2
  · rcases Nat.lt_or_ge (L - 6) i with q2 | q2
    · exfalso
      apply h
      show nI L - nI 6 < nI i
      rw [pk_sub q]
      exact nI_lt q2 (by omega)
    · omega
theorem sw_law {x : Int32} (c0 : ¬ x = (0 : Int32)) (c1 : ¬ x = (1 : Int32)) (c2 : ¬ x = (2 : Int32)) (c3 : ¬ x = (3 : Int32)) (c4 : ¬ x = (4 : Int32)) (c5 : ¬ x = (5 : Int32)) (c6 : ¬ x = (6 : Int32)) (c7 : ¬ x = (7 : Int32)) (c8 : ¬ x = (8 : Int32)) (c9 : ¬ x = (9 : Int32)) (c10 : ¬ x = (10 : Int32)) (c11 : ¬ x = (11 : Int32)) (c12 : ¬ x = (12 : Int32)) (c13 : ¬ x = (13 : Int32)) (c14 : ¬ x = (14 : Int32)) (c15 : ¬ x = (15 : Int32)) (c16 : ¬ x = (16 : Int32)) (c17 : ¬ x = (17 : Int32)) (c18 : ¬ x = (18 : Int32)) (c19 : ¬ x = (19 : Int32)) (c20 : ¬ x = (20 : Int32)) (c21 : ¬ x = (21 : Int32)) (c22 : ¬ x = (22 : Int32)) (c23 : ¬ x = (23 : Int32)) (c24 : ¬ x = (24 : Int32)) : x.toInt < 0 ∨ 24 < x.toInt := by
  have e0 : x.toInt ≠ 0 := fun e => c0 (Int32.toInt_inj.mp (e.trans (by decide)))
  have e1 : x.toInt ≠ 1 := fun e => c1 (Int32.toInt_inj.mp (e.trans (by decide)))
  have e2 : x.toInt ≠ 2 := fun e => c2 (Int32.toInt_inj.mp (e.trans (by decide)))
  have e3 : x.toInt ≠ 3 := fun e => c3 (Int32.toInt_inj.mp (e.trans (by decide)))
  have e4 : x.toInt ≠ 4 := fun e => c4 (Int32.toInt_inj.mp (e.trans (by decide)))
  have e5 : x.toInt ≠ 5 := fun e => c5 (Int32.toInt_inj.mp (e.trans (by decide)))
  have e6 : x.toInt ≠ 6 := fun e => c6 (Int32.toInt_inj.mp (e.trans (by decide)))
  have e7 : x.toInt ≠ 7 := fun e => c7 (Int32.toInt_inj.mp (e.trans (by decide)))
  have e8 : x.toInt ≠ 8 := fun e => c8 (Int32.toInt_inj.mp (e.trans (by decide)))
  have e9 : x.toInt ≠ 9 := fun e => c9 (Int32.toInt_inj.mp (e.trans (by decide)))
  have e10 : x.toInt ≠ 10 := fun e => c10 (Int32.toInt_inj.mp (e.trans (by decide)))
  have e11 : x.toInt ≠ 11 := fun e => c11 (Int32.toInt_inj.mp (e.trans (by decide)))
  have e12 : x.toInt ≠ 12 := fun e => c12 (Int32.toInt_inj.mp (e.trans (by decide)))
  have e13 : x.toInt ≠ 13 := fun e => c13 (Int32.toInt_inj.mp (e.trans (by decide)))
  have e14 : x.toInt ≠ 14 := fun e => c14 (Int32.toInt_inj.mp (e.trans (by decide)))
  have e15 : x.toInt ≠ 15 := fun e => c15 (Int32.toInt_inj.mp (e.trans (by decide)))
  have e16 : x.toInt ≠ 16 := fun e => c16 (Int32.toInt_inj.mp (e.trans (by decide)))
  have e17 : x.toInt ≠ 17 := fun e => c17 (Int32.toInt_inj.mp (e.trans (by decide)))
  have e18 : x.toInt ≠ 18 := fun e => c18 (Int32.toInt_inj.mp (e.trans (by decide)))
  have e19 : x.toInt ≠ 19 := fun e => c19 (Int32.toInt_inj.mp (e.trans (by decide)))
  have e20 : x.toInt ≠ 20 := fun e => c20 (Int32.toInt_inj.mp (e.trans (by decide)))
  have e21 : x.toInt ≠ 21 := fun e => c21 (Int32.toInt_inj.mp (e.trans (by decide)))
  have e22 : x.toInt ≠ 22 := fun e => c22 (Int32.toInt_inj.mp (e.trans (by decide)))
  have e23 : x.toInt ≠ 23 := fun e => c23 (Int32.toInt_inj.mp (e.trans (by decide)))
  have e24 : x.toInt ≠ 24 := fun e => c24 (Int32.toInt_inj.mp (e.trans (by decide)))
  omega
set_option maxHeartbeats 4000000 in
set_option maxRecDepth 100000 in
theorem law_loop {Rl : Hp → Hp → Prop} (H_road : op_road Rl) (H_walker : op_walker Rl) (H_say : op_say Rl) (H_wipe : op_wipe Rl) (H_fault : op_fault Rl) (H_judge : op_judge Rl) (H_done : op_done Rl) (H_behind : op_behind Rl) (H_goes : op_goes Rl) (H_then : op_then Rl) (H_way : op_way Rl) (H_parts : op_parts Rl) (H_strokes : op_strokes Rl) (H_mended : op_mended Rl) (H_pays : op_pays Rl) (H_seen : op_seen Rl) (H_forget : op_forget Rl) (H_who : op_who Rl) (H_ask : op_ask Rl) (H_tacks : op_tacks Rl) (H_wet : op_wet Rl) (H_year : op_year Rl) (H_image : op_image Rl) (H_restore : op_restore Rl) (H_told : op_told Rl) (X : Cx p s m #[Value.ref b] meth c RL cL_law 4 ret (adX, d)) (hS : va_X b L xs s s.heap) (hbl : b < s.heap.size) (hL : L ≤ 384) : ∀ (n i : Nat) (hx hm : Hp), Rl hx hm → i ≤ L → L < i + n → J p l e room_1 s m #[Value.ref b] below meth c 55 4744 (lw_Z below #[Value.ref b] s) (adX, d) (fun h => wX (adX, d) h ++ wM (adM, d) hm) (fun q => s.heap.size ≤ q) s.heap 4 18 [(0, .ref b), (1, .ref (adX 0)), (2, .ref (adM 0)), (3, .int (nI i))] [] hx := by
  intro n
  induction n with
  | zero =>
    intro i hx hm hr hi hn
    exact absurd hn (by omega)
  | succ n ih =>
    intro i hx hm hr hi hn
    refine J_iload_n X 3 dL_law_18 rfl rfl ?_
    refine J_aload_n X 0 dL_law_19 rfl rfl ?_
    refine J_slen X hS hbl (Nat.not_le.mpr hbl) dL_law_20 ?_
    refine J_bipush X (6 : Int32) dL_law_21 (by decide) ?_
    refine J_isub X dL_law_23 ?_
    refine J_icmp_gt (tgt := 943) X dL_law_24 (by decide) (fun _ => ?_) (fun c24 => ?_)
    · refine J_const X (1 : Int32) dL_law_943 (by decide) ?_
      intro H locs ls hm2 hl
      refine va_forget (fun q hq => hm2.2.1.2.2 q hq) ?_
      exact lw_ret X.1 X.2.1 X.2.2.2.2.2.2.2.1 X.2.2.2.2.2.2.2.2 dL_law_944
    · have hi6 := law_cond hL hi c24
      refine J_aload_n X 0 dL_law_27 rfl rfl ?_
      refine J_iload_n X 3 dL_law_28 rfl rfl ?_
      refine J_sld X hS hbl (Nat.not_le.mpr hbl) (vp_in_nI (show i < L by omega) (by omega)) dL_law_29 ?_
      refine J_bipush X (31 : Int32) dL_law_30 (by decide) ?_
      refine J_iand X dL_law_32 ?_
      generalize xs (nI i).toNatClampNeg &&& (31 : Int32) = v
      have K : ∀ hx hm, Rl hx hm → J p l e room_1 s m #[Value.ref b] below meth c 55 4744 (lw_Z below #[Value.ref b] s) (adX, d) (fun h => wX (adX, d) h ++ wM (adM, d) hm) (fun q => s.heap.size ≤ q) s.heap 4 937 [(0, .ref b), (1, .ref (adX 0)), (2, .ref (adM 0)), (3, .int (nI i))] [] hx := by
        intro hx hm hr
        refine J_iinc X 3 [(3, .int (nI (i + 6))), (0, .ref b), (1, .ref (adX 0)), (2, .ref (adM 0))] dL_law_937 rfl (nI_add i 6) (Nat.le_of_ble_eq_true rfl) rfl ?_
        refine J_goto (tgt := 18) X dL_law_940 (by decide) ?_
        exact J_sub [1, 2, 3, 0] rfl (ih (i + 6) hx hm hr (by omega) (by omega))
      by_cases q0 : v = (0 : Int32)
      · refine J_topi (0 : Int32) q0 ?_
        refine J_tableIn (tgt := 148) X dL_law_33 (by decide) (by decide) rfl (by decide) ?_
        exact law_c0 H_road X hS hbl hL i hi6 hx hm hr K
      by_cases q1 : v = (1 : Int32)
      · refine J_topi (1 : Int32) q1 ?_
        refine J_tableIn (tgt := 191) X dL_law_33 (by decide) (by decide) rfl (by decide) ?_
        exact law_c1 H_walker X hS hbl hL i hi6 hx hm hr K
      by_cases q2 : v = (2 : Int32)
      · refine J_topi (2 : Int32) q2 ?_
        refine J_tableIn (tgt := 250) X dL_law_33 (by decide) (by decide) rfl (by decide) ?_
        exact law_c2 H_say X hS hbl hL i hi6 hx hm hr K
      by_cases q3 : v = (3 : Int32)
      · refine J_topi (3 : Int32) q3 ?_
        refine J_tableIn (tgt := 273) X dL_law_33 (by decide) (by decide) rfl (by decide) ?_
        exact law_c3 H_wipe X hS hbl hL i hi6 hx hm hr K
      by_cases q4 : v = (4 : Int32)
      · refine J_topi (4 : Int32) q4 ?_
        refine J_tableIn (tgt := 286) X dL_law_33 (by decide) (by decide) rfl (by decide) ?_
        exact law_c4 H_fault X hS hbl hL i hi6 hx hm hr K
      by_cases q5 : v = (5 : Int32)
      · refine J_topi (5 : Int32) q5 ?_
        refine J_tableIn (tgt := 299) X dL_law_33 (by decide) (by decide) rfl (by decide) ?_
        exact law_c5 H_judge X hS hbl hL i hi6 hx hm hr K
      by_cases q6 : v = (6 : Int32)
      · refine J_topi (6 : Int32) q6 ?_
        refine J_tableIn (tgt := 322) X dL_law_33 (by decide) (by decide) rfl (by decide) ?_
        exact law_c6 H_done X hS hbl hL i hi6 hx hm hr K
      by_cases q7 : v = (7 : Int32)
      · refine J_topi (7 : Int32) q7 ?_
        refine J_tableIn (tgt := 335) X dL_law_33 (by decide) (by decide) rfl (by decide) ?_
        exact law_c7 H_behind X hS hbl hL i hi6 hx hm hr K
      by_cases q8 : v = (8 : Int32)
      · refine J_topi (8 : Int32) q8 ?_
        refine J_tableIn (tgt := 368) X dL_law_33 (by decide) (by decide) rfl (by decide) ?_
        exact law_c8 H_goes X hS hbl hL i hi6 hx hm hr K
      by_cases q9 : v = (9 : Int32)
      · refine J_topi (9 : Int32) q9 ?_
        refine J_tableIn (tgt := 401) X dL_law_33 (by decide) (by decide) rfl (by decide) ?_
        exact law_c9 H_then X hS hbl hL i hi6 hx hm hr K
      by_cases q10 : v = (10 : Int32)
      · refine J_topi (10 : Int32) q10 ?_
        refine J_tableIn (tgt := 424) X dL_law_33 (by decide) (by decide) rfl (by decide) ?_
        exact law_c10 H_way X hS hbl hL i hi6 hx hm hr K
      by_cases q11 : v = (11 : Int32)
      · refine J_topi (11 : Int32) q11 ?_
        refine J_tableIn (tgt := 467) X dL_law_33 (by decide) (by decide) rfl (by decide) ?_
        exact law_c11 H_parts X hS hbl hL i hi6 hx hm hr K
      by_cases q12 : v = (12 : Int32)
      · refine J_topi (12 : Int32) q12 ?_
        refine J_tableIn (tgt := 490) X dL_law_33 (by decide) (by decide) rfl (by decide) ?_
        exact law_c12 H_strokes X hS hbl hL i hi6 hx hm hr K
      by_cases q13 : v = (13 : Int32)
      · refine J_topi (13 : Int32) q13 ?_
        refine J_tableIn (tgt := 503) X dL_law_33 (by decide) (by decide) rfl (by decide) ?_
        exact law_c13 H_mended X hS hbl hL i hi6 hx hm hr K
      by_cases q14 : v = (14 : Int32)
      · refine J_topi (14 : Int32) q14 ?_
        refine J_tableIn (tgt := 546) X dL_law_33 (by decide) (by decide) rfl (by decide) ?_
        exact law_c14 H_pays X hS hbl hL i hi6 hx hm hr K
      by_cases q15 : v = (15 : Int32)
      · refine J_topi (15 : Int32) q15 ?_
        refine J_tableIn (tgt := 600) X dL_law_33 (by decide) (by decide) rfl (by decide) ?_
        exact law_c15 H_seen X hS hbl hL i hi6 hx hm hr K
      by_cases q16 : v = (16 : Int32)
      · refine J_topi (16 : Int32) q16 ?_
        refine J_tableIn (tgt := 659) X dL_law_33 (by decide) (by decide) rfl (by decide) ?_
        exact law_c16 H_forget X hS hbl hL i hi6 hx hm hr K
      by_cases q17 : v = (17 : Int32)
      · refine J_topi (17 : Int32) q17 ?_
        refine J_tableIn (tgt := 672) X dL_law_33 (by decide) (by decide) rfl (by decide) ?_
        exact law_c17 H_who X hS hbl hL i hi6 hx hm hr K
      by_cases q18 : v = (18 : Int32)
      · refine J_topi (18 : Int32) q18 ?_
        refine J_tableIn (tgt := 695) X dL_law_33 (by decide) (by decide) rfl (by decide) ?_
        exact law_c18 H_ask X hS hbl hL i hi6 hx hm hr K
      by_cases q19 : v = (19 : Int32)
      · refine J_topi (19 : Int32) q19 ?_
        refine J_tableIn (tgt := 718) X dL_law_33 (by decide) (by decide) rfl (by decide) ?_
        exact law_c19 H_tacks X hS hbl hL i hi6 hx hm hr K
      by_cases q20 : v = (20 : Int32)
      · refine J_topi (20 : Int32) q20 ?_
        refine J_tableIn (tgt := 761) X dL_law_33 (by decide) (by decide) rfl (by decide) ?_
        exact law_c20 H_wet X hS hbl hL i hi6 hx hm hr K
      by_cases q21 : v = (21 : Int32)
      · refine J_topi (21 : Int32) q21 ?_
        refine J_tableIn (tgt := 825) X dL_law_33 (by decide) (by decide) rfl (by decide) ?_
        exact law_c21 H_year X hS hbl hL i hi6 hx hm hr K
      by_cases q22 : v = (22 : Int32)
      · refine J_topi (22 : Int32) q22 ?_
        refine J_tableIn (tgt := 868) X dL_law_33 (by decide) (by decide) rfl (by decide) ?_
        exact law_c22 H_image X hS hbl hL i hi6 hx hm hr K
      by_cases q23 : v = (23 : Int32)
      · refine J_topi (23 : Int32) q23 ?_
        refine J_tableIn (tgt := 891) X dL_law_33 (by decide) (by decide) rfl (by decide) ?_
        exact law_c23 H_restore X hS hbl hL i hi6 hx hm hr K
      by_cases q24 : v = (24 : Int32)
      · refine J_topi (24 : Int32) q24 ?_
        refine J_tableIn (tgt := 914) X dL_law_33 (by decide) (by decide) rfl (by decide) ?_
        exact law_c24 H_told X hS hbl hL i hi6 hx hm hr K
      refine J_tableOut (tgt := 937) X dL_law_33 (sw_law q0 q1 q2 q3 q4 q5 q6 q7 q8 q9 q10 q11 q12 q13 q14 q15 q16 q17 q18 q19 q20 q21 q22 q23 q24) (by decide) ?_
      exact K hx hm hr
end LAW
