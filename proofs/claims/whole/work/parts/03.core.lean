/-! THE CORE: a world as a function of a plain heap (ints and longs by a cell's number and a place), the judgement J over it, a row an instruction. -/
/-- a plain heap: ints (fields and arrays) by cell and place, longs by cell and place -/
abbrev Hp : Type := (Nat → Nat → Int32) × (Nat → Nat → Int64)
def ip (h : Hp) (r j : Nat) (v : Int32) : Hp := (fun a => if a = r then upd (h.1 r) j v else h.1 a, h.2)
def lp (h : Hp) (r j : Nat) (v : Int64) : Hp := (h.1, fun a => if a = r then vp_updL (h.2 r) j v else h.2 a)
/-- addresses, class numbers and slots, the three array classes -/
abbrev Om : Type := (Nat → Nat) × va_G × ClassId × ClassId × ClassId
def tyO (o : Om) : List (ClassId × FieldType) := [(o.2.2.1, .int), (o.2.2.2.1, .long), (o.2.2.2.2, .boolean)]
/-- an int array: cell r, n places -/
def EI (o : Om) (emb : Hp → va_W) (r n : Nat) : Prop := ∃ q : Nat, ∀ h : Hp, (emb h)[q]? = some (o.1 r, .inl (o.2.2.1, n, .inl (h.1 r))) ∧ ∀ (j : Nat) (x : Int32), (emb h).set q (o.1 r, .inl (o.2.2.1, n, .inl (upd (h.1 r) j x))) = emb (ip h r j x)
def EZ (o : Om) (emb : Hp → va_W) (r n : Nat) : Prop := ∃ q : Nat, ∀ h : Hp, (emb h)[q]? = some (o.1 r, .inl (o.2.2.2.2, n, .inl (h.1 r))) ∧ ∀ (j : Nat) (x : Int32), (emb h).set q (o.1 r, .inl (o.2.2.2.2, n, .inl (upd (h.1 r) j x))) = emb (ip h r j x)
def EL (o : Om) (emb : Hp → va_W) (r n : Nat) : Prop := ∃ q : Nat, ∀ h : Hp, (emb h)[q]? = some (o.1 r, .inl (o.2.2.2.1, n, .inr (.inl (h.2 r)))) ∧ ∀ (j : Nat) (x : Int64), (emb h).set q (o.1 r, .inl (o.2.2.2.1, n, .inr (.inl (vp_updL (h.2 r) j x)))) = emb (lp h r j x)
/-- an object: cell r of class ci, its fields, those of them that are written -/
def EO (o : Om) (emb : Hp → va_W) (r ci : Nat) (fs : Hp → List Value) (wk : List Nat) : Prop := ∃ q : Nat, ∀ h : Hp, (emb h)[q]? = some (o.1 r, .inr (ci, fs h)) ∧ ∀ k ∈ wk, ∀ x : Int32, (emb h).set q (o.1 r, .inr (ci, (fs h).set k (.int x))) = emb (ip h r k x)
/-- what holds at the entry of a method all along its body -/
def Cx (p : Program) (s : State) (m : MethodId) (args : Array Value) (meth : Method) (c : Code) (own : String) (cc : ByteArray) (nL : Nat) (rt : Option FieldType) (o : Om) : Prop :=
  p.tables.exec = Jvm.exec ∧ c.code = cc ∧ c.maxLocals = nL ∧ s.vm.findClass own = some m.cls ∧ (∀ w ∈ TT, w.before args s = true) ∧ va_K o.2.1 vwCl (tyO o) s ∧ (∀ w ∈ NW, va_Nw w s) ∧ meth.sig.returnType = rt ∧ meth.locks = false
def Mem (o : Om) (emb : Hp → va_W) (A : Nat → Prop) (H0 : Heap) (h : Hp) (H : Heap) (locs : List Loc) : Prop := va_P o.2.1 vwCl (emb h) H ∧ va_S A H0 H locs ∧ ∀ h : Hp, va_D A (emb h)
/-- the machine, at the frame (pc, locals, stack) over the heap h, comes to a state with Z -/
def J (p : Program) (l : Launch) (e : Env) (R : Room) (s : State) (m : MethodId) (args : Array Value) (below : List Frame) (meth : Method) (c : Code) (cells slots : Nat) (Z : State → Prop) (o : Om) (emb : Hp → va_W) (A : Nat → Prop) (H0 : Heap) (nL pc : Nat) (lo : List (Nat × Value)) (st : List Value) (h : Hp) : Prop :=
  ∀ (H : Heap) (locs : List Loc) (ls : Array Slot), Mem o emb A H0 h H locs → lv_has ls nL lo → W p l e R s m args below meth c H locs cells slots Z (F0 m pc ls st)
/-- a method's contract: from the heap h it returns rv over the heap h' -/
def WdPc (o : Om) (emb : Hp → va_W) (h : Hp) (av : List Value) : Array Value → State → Prop := va_Pc av (fun U => va_P o.2.1 vwCl (emb h) U.heap ∧ va_K o.2.1 vwCl (tyO o) U ∧ ∀ w ∈ NW, va_Nw w U)
def WdQ (o : Om) (emb : Hp → va_W) (A : Nat → Prop) (rv : Option Value) (h' : Hp) : Array Value → State → Outcome → State → Prop := fun _ st oc t => (oc = .returned rv ∧ va_P o.2.1 vwCl (emb h') t.heap) ∧ va_F A st t
def rmf (f n : Nat) : Room := { frames := f, cells := 0, slots := 0, locals := n }
def Ct (l : Launch) (o : Om) (emb : Hp → va_W) (A : Nat → Prop) (y : MethodName) (cc : ByteArray) (nL : Nat) (rt : Option FieldType) (f n : Nat) (av : List Value) (h : Hp) (rv : Option Value) (h' : Hp) : Prop :=
  Met l y (.code y cc nL rt :: TT) (rmf f n) (WdPc o emb h av) (WdQ o emb A rv h') 0 0 A
theorem nest_on : ∀ w ∈ NW, w.onTables = true := by decide +kernel
theorem nw_moved {u U : State} (h : u.vm = U.vm) (hn : ∀ w ∈ NW, va_Nw w u) : ∀ w ∈ NW, va_Nw w U := fun w hw => va_Nw.same (nest_on w hw) h (hn w hw)
theorem nw_warm {s U : State} (hW : s.WarmedH U.vm) (hn : ∀ w ∈ NW, va_Nw w s) : ∀ w ∈ NW, va_Nw w U := by
  intro w hw
  have h1 := hn w hw
  have h2 := (List.mem_filter.mp hw).2
  cases w <;> first | exact va_Nw.warmF hW h1 | exact va_Nw.warmM hW h1 | (simp [isNest] at h2; done)
theorem wd_blind {o : Om} {emb : Hp → va_W} {h : Hp} {av : List Value} : FrameBlind (WdPc o emb h av) := by
  intro a U g mk hq
  obtain ⟨q0, qP, qK, qN⟩ := hq
  exact ⟨q0, qP, va_K.moved (u := U) (U := U.calling g mk a) (Vm.Alike.refl U.vm) qK, nw_moved (u := U) (U := U.calling g mk a) rfl qN⟩
theorem goodTT {y : MethodName} {cc : ByteArray} {nL : Nat} {rt : Option FieldType} (hc : Cond.code y cc nL rt ∈ TT) : GoodIn TT (.code y cc nL rt :: TT) := by
  intro w hw
  rcases List.mem_cons.mp hw with rfl | hw
  · exact ⟨hc, Or.inl rfl⟩
  · exact ⟨hw, TTgood w hw⟩
section CORE
variable {p : Program} {l : Launch} {e : Env} {R : Room} {s : State} {m : MethodId} {args : Array Value} {below : List Frame} {meth : Method} {c : Code} {cells slots : Nat} {Z : State → Prop} {o : Om} {emb : Hp → va_W} {A : Nat → Prop} {H0 : Heap} {nL pc : Nat} {lo : List (Nat × Value)} {st rest : List Value} {h : Hp} {own : String} {cc : ByteArray} {rt : Option FieldType}
theorem J_const (X : Cx p s m args meth c own cc nL rt o) {n : Int} (v : Int32) (hd : decode cc pc = .ok (.iconst n, 1)) (hv : Int32.ofInt n = v) (k : J p l e R s m args below meth c cells slots Z o emb A H0 nL (pc + 1) lo (.int v :: st) h) : J p l e R s m args below meth c cells slots Z o emb A H0 nL pc lo st h :=
  fun H locs ls hm hl => lv_iconst X.1 X.2.1 hd hv (k H locs ls hm hl)
theorem J_bipush (X : Cx p s m args meth c own cc nL rt o) {n : Int} (v : Int32) (hd : decode cc pc = .ok (.bipush n, 2)) (hv : (Int8.ofInt n).toInt32 = v) (k : J p l e R s m args below meth c cells slots Z o emb A H0 nL (pc + 2) lo (.int v :: st) h) : J p l e R s m args below meth c cells slots Z o emb A H0 nL pc lo st h :=
  fun H locs ls hm hl => lv_bipush X.1 X.2.1 hd hv (k H locs ls hm hl)
theorem J_sipush (X : Cx p s m args meth c own cc nL rt o) {n : Int} (v : Int32) (hd : decode cc pc = .ok (.sipush n, 3)) (hv : (Int16.ofInt n).toInt32 = v) (k : J p l e R s m args below meth c cells slots Z o emb A H0 nL (pc + 3) lo (.int v :: st) h) : J p l e R s m args below meth c cells slots Z o emb A H0 nL pc lo st h :=
  fun H locs ls hm hl => lv_sipush X.1 X.2.1 hd hv (k H locs ls hm hl)
theorem J_lconst (X : Cx p s m args meth c own cc nL rt o) {n : Fin 2} (v : Int64) (hd : decode cc pc = .ok (.lconst n, 1)) (hv : Int64.ofNat (n : Nat) = v) (k : J p l e R s m args below meth c cells slots Z o emb A H0 nL (pc + 1) lo (.long v :: st) h) : J p l e R s m args below meth c cells slots Z o emb A H0 nL pc lo st h :=
  fun H locs ls hm hl => lv_lconst X.1 X.2.1 hd hv (k H locs ls hm hl)
theorem J_ldc (X : Cx p s m args meth c own cc nL rt o) {i : Nat} {v : Int32} (hw : Cond.constant own i v ∈ TT) (hd : decode cc pc = .ok (.ldc i, 2)) (k : J p l e R s m args below meth c cells slots Z o emb A H0 nL (pc + 2) lo (.int v :: st) h) : J p l e R s m args below meth c cells slots Z o emb A H0 nL pc lo st h :=
  fun H locs ls hm hl => lv_ldc X.1 X.2.1 X.2.2.2.1 (X.2.2.2.2.1 _ hw) hd (k H locs ls hm hl)
theorem J_ldcw (X : Cx p s m args meth c own cc nL rt o) {i : Nat} {v : Int32} (hw : Cond.constant own i v ∈ TT) (hd : decode cc pc = .ok (.ldc_w i, 3)) (k : J p l e R s m args below meth c cells slots Z o emb A H0 nL (pc + 3) lo (.int v :: st) h) : J p l e R s m args below meth c cells slots Z o emb A H0 nL pc lo st h :=
  fun H locs ls hm hl => lv_ldcw X.1 X.2.1 X.2.2.2.1 (X.2.2.2.2.1 _ hw) hd (k H locs ls hm hl)
theorem J_ldc2 (X : Cx p s m args meth c own cc nL rt o) {i : Nat} {v : Int64} (hw : Cond.constantLong own i v ∈ TT) (hd : decode cc pc = .ok (.ldc2_w i, 3)) (k : J p l e R s m args below meth c cells slots Z o emb A H0 nL (pc + 3) lo (.long v :: st) h) : J p l e R s m args below meth c cells slots Z o emb A H0 nL pc lo st h :=
  fun H locs ls hm hl => lv_ldc2 X.1 X.2.1 X.2.2.2.1 (X.2.2.2.2.1 _ hw) hd (k H locs ls hm hl)
theorem J_iload_n (X : Cx p s m args meth c own cc nL rt o) {n : Fin 4} {i : Nat} {x : Int32} (q : Nat) (hd : decode cc pc = .ok (.iload_n n, 1)) (hn : (n : Nat) = i) (hq : lo[q]? = some (i, .int x)) (k : J p l e R s m args below meth c cells slots Z o emb A H0 nL (pc + 1) lo (.int x :: st) h) : J p l e R s m args below meth c cells slots Z o emb A H0 nL pc lo st h :=
  fun H locs ls hm hl => lv_iload_n X.1 X.2.1 hd hn (lv_at hl q hq) (k H locs ls hm hl)
theorem J_iload (X : Cx p s m args meth c own cc nL rt o) {i : Nat} {x : Int32} (q : Nat) (hd : decode cc pc = .ok (.iload i, 2)) (hq : lo[q]? = some (i, .int x)) (k : J p l e R s m args below meth c cells slots Z o emb A H0 nL (pc + 2) lo (.int x :: st) h) : J p l e R s m args below meth c cells slots Z o emb A H0 nL pc lo st h :=
  fun H locs ls hm hl => lv_iload X.1 X.2.1 hd (lv_at hl q hq) (k H locs ls hm hl)
theorem J_lload_n (X : Cx p s m args meth c own cc nL rt o) {n : Fin 4} {i : Nat} {x : Int64} (q : Nat) (hd : decode cc pc = .ok (.lload_n n, 1)) (hn : (n : Nat) = i) (hq : lo[q]? = some (i, .long x)) (k : J p l e R s m args below meth c cells slots Z o emb A H0 nL (pc + 1) lo (.long x :: st) h) : J p l e R s m args below meth c cells slots Z o emb A H0 nL pc lo st h :=
  fun H locs ls hm hl => lv_lload_n X.1 X.2.1 hd hn (lv_at hl q hq) (k H locs ls hm hl)
theorem J_lload (X : Cx p s m args meth c own cc nL rt o) {i : Nat} {x : Int64} (q : Nat) (hd : decode cc pc = .ok (.lload i, 2)) (hq : lo[q]? = some (i, .long x)) (k : J p l e R s m args below meth c cells slots Z o emb A H0 nL (pc + 2) lo (.long x :: st) h) : J p l e R s m args below meth c cells slots Z o emb A H0 nL pc lo st h :=
  fun H locs ls hm hl => lv_lload X.1 X.2.1 hd (lv_at hl q hq) (k H locs ls hm hl)
theorem J_aload_n (X : Cx p s m args meth c own cc nL rt o) {n : Fin 4} {i : Nat} {x : Nat} (q : Nat) (hd : decode cc pc = .ok (.aload_n n, 1)) (hn : (n : Nat) = i) (hq : lo[q]? = some (i, .ref x)) (k : J p l e R s m args below meth c cells slots Z o emb A H0 nL (pc + 1) lo (.ref x :: st) h) : J p l e R s m args below meth c cells slots Z o emb A H0 nL pc lo st h :=
  fun H locs ls hm hl => lv_aload_n X.1 X.2.1 hd hn (lv_at hl q hq) (k H locs ls hm hl)
theorem J_aload (X : Cx p s m args meth c own cc nL rt o) {i : Nat} {x : Nat} (q : Nat) (hd : decode cc pc = .ok (.aload i, 2)) (hq : lo[q]? = some (i, .ref x)) (k : J p l e R s m args below meth c cells slots Z o emb A H0 nL (pc + 2) lo (.ref x :: st) h) : J p l e R s m args below meth c cells slots Z o emb A H0 nL pc lo st h :=
  fun H locs ls hm hl => lv_aload X.1 X.2.1 hd (lv_at hl q hq) (k H locs ls hm hl)
/-- the locals behind a store of one slot, of two slots -/
def sto1 (i : Nat) (v : Value) (lo : List (Nat × Value)) : List (Nat × Value) := (i, v) :: lo.filter (fun q => !(q.1 == i) && !(q.1 + 1 == i && q.2.category == 2))
def sto2 (i : Nat) (v : Value) (lo : List (Nat × Value)) : List (Nat × Value) := (i, v) :: lo.filter (fun q => !(q.1 == i) && (!(q.1 == i + 1) && !(q.1 + 1 == i && q.2.category == 2)))
theorem J_istore_n (X : Cx p s m args meth c own cc nL rt o) {n : Fin 4} {i : Nat} {x : Int32} (lo' : List (Nat × Value)) (hd : decode cc pc = .ok (.istore_n n, 1)) (hn : (n : Nat) = i) (hi : i < nL) (hl' : sto1 i (.int x) lo = lo') (k : J p l e R s m args below meth c cells slots Z o emb A H0 nL (pc + 1) lo' st h) : J p l e R s m args below meth c cells slots Z o emb A H0 nL pc lo (.int x :: st) h :=
  fun H locs _ hm hl => lv_istore_n X.1 X.2.1 hd hn hl hi hl' (fun ls' h2 => k H locs ls' hm h2)
theorem J_istore (X : Cx p s m args meth c own cc nL rt o) {i : Nat} {x : Int32} (lo' : List (Nat × Value)) (hd : decode cc pc = .ok (.istore i, 2)) (hi : i < nL) (hl' : sto1 i (.int x) lo = lo') (k : J p l e R s m args below meth c cells slots Z o emb A H0 nL (pc + 2) lo' st h) : J p l e R s m args below meth c cells slots Z o emb A H0 nL pc lo (.int x :: st) h :=
  fun H locs _ hm hl => lv_istore X.1 X.2.1 hd hl hi hl' (fun ls' h2 => k H locs ls' hm h2)
theorem J_lstore_n (X : Cx p s m args meth c own cc nL rt o) {n : Fin 4} {i : Nat} {x : Int64} (lo' : List (Nat × Value)) (hd : decode cc pc = .ok (.lstore_n n, 1)) (hn : (n : Nat) = i) (hi : i + 1 < nL) (hl' : sto2 i (.long x) lo = lo') (k : J p l e R s m args below meth c cells slots Z o emb A H0 nL (pc + 1) lo' st h) : J p l e R s m args below meth c cells slots Z o emb A H0 nL pc lo (.long x :: st) h :=
  fun H locs _ hm hl => lv_lstore_n X.1 X.2.1 hd hn hl hi hl' (fun ls' h2 => k H locs ls' hm h2)
theorem J_lstore (X : Cx p s m args meth c own cc nL rt o) {i : Nat} {x : Int64} (lo' : List (Nat × Value)) (hd : decode cc pc = .ok (.lstore i, 2)) (hi : i + 1 < nL) (hl' : sto2 i (.long x) lo = lo') (k : J p l e R s m args below meth c cells slots Z o emb A H0 nL (pc + 2) lo' st h) : J p l e R s m args below meth c cells slots Z o emb A H0 nL pc lo (.long x :: st) h :=
  fun H locs _ hm hl => lv_lstore X.1 X.2.1 hd hl hi hl' (fun ls' h2 => k H locs ls' hm h2)
theorem J_astore_n (X : Cx p s m args meth c own cc nL rt o) {n : Fin 4} {i : Nat} {x : Nat} (lo' : List (Nat × Value)) (hd : decode cc pc = .ok (.astore_n n, 1)) (hn : (n : Nat) = i) (hi : i < nL) (hl' : sto1 i (.ref x) lo = lo') (k : J p l e R s m args below meth c cells slots Z o emb A H0 nL (pc + 1) lo' st h) : J p l e R s m args below meth c cells slots Z o emb A H0 nL pc lo (.ref x :: st) h :=
  fun H locs _ hm hl => lv_astore_n X.1 X.2.1 hd hn hl hi hl' (fun ls' h2 => k H locs ls' hm h2)
theorem J_iinc (X : Cx p s m args meth c own cc nL rt o) {i : Nat} {n : Int} {x v : Int32} (q : Nat) (lo' : List (Nat × Value)) (hd : decode cc pc = .ok (.iinc i n, 3)) (hq : lo[q]? = some (i, .int x)) (hv : x + Int32.ofInt n = v) (hi : i < nL) (hl' : sto1 i (.int v) lo = lo') (k : J p l e R s m args below meth c cells slots Z o emb A H0 nL (pc + 3) lo' st h) : J p l e R s m args below meth c cells slots Z o emb A H0 nL pc lo st h :=
  fun H locs _ hm hl => lv_iinc X.1 X.2.1 hd hl hq hv hi hl' (fun ls' h2 => k H locs ls' hm h2)
theorem J_sub (ks : List Nat) {lo' : List (Nat × Value)} (hl : lv_pick lo ks = lo') (k : J p l e R s m args below meth c cells slots Z o emb A H0 nL pc lo' st h) : J p l e R s m args below meth c cells slots Z o emb A H0 nL pc lo st h :=
  fun H locs ls hm h2 => k H locs ls hm (lv_sub h2 ks hl)
theorem J_iadd (X : Cx p s m args meth c own cc nL rt o) {x y : Int32} (hd : decode cc pc = .ok (.iadd, 1)) (k : J p l e R s m args below meth c cells slots Z o emb A H0 nL (pc + 1) lo (.int (x + y) :: st) h) : J p l e R s m args below meth c cells slots Z o emb A H0 nL pc lo (.int y :: .int x :: st) h :=
  fun H locs ls hm hl => lv_iadd X.1 X.2.1 hd (k H locs ls hm hl)
theorem J_isub (X : Cx p s m args meth c own cc nL rt o) {x y : Int32} (hd : decode cc pc = .ok (.isub, 1)) (k : J p l e R s m args below meth c cells slots Z o emb A H0 nL (pc + 1) lo (.int (x - y) :: st) h) : J p l e R s m args below meth c cells slots Z o emb A H0 nL pc lo (.int y :: .int x :: st) h :=
  fun H locs ls hm hl => lv_isub X.1 X.2.1 hd (k H locs ls hm hl)
theorem J_imul (X : Cx p s m args meth c own cc nL rt o) {x y : Int32} (hd : decode cc pc = .ok (.imul, 1)) (k : J p l e R s m args below meth c cells slots Z o emb A H0 nL (pc + 1) lo (.int (x * y) :: st) h) : J p l e R s m args below meth c cells slots Z o emb A H0 nL pc lo (.int y :: .int x :: st) h :=
  fun H locs ls hm hl => lv_imul X.1 X.2.1 hd (k H locs ls hm hl)
theorem J_iand (X : Cx p s m args meth c own cc nL rt o) {x y : Int32} (hd : decode cc pc = .ok (.iand, 1)) (k : J p l e R s m args below meth c cells slots Z o emb A H0 nL (pc + 1) lo (.int (x &&& y) :: st) h) : J p l e R s m args below meth c cells slots Z o emb A H0 nL pc lo (.int y :: .int x :: st) h :=
  fun H locs ls hm hl => lv_iand X.1 X.2.1 hd (k H locs ls hm hl)
theorem J_ior (X : Cx p s m args meth c own cc nL rt o) {x y : Int32} (hd : decode cc pc = .ok (.ior, 1)) (k : J p l e R s m args below meth c cells slots Z o emb A H0 nL (pc + 1) lo (.int (x ||| y) :: st) h) : J p l e R s m args below meth c cells slots Z o emb A H0 nL pc lo (.int y :: .int x :: st) h :=
  fun H locs ls hm hl => lv_ior X.1 X.2.1 hd (k H locs ls hm hl)
theorem J_ixor (X : Cx p s m args meth c own cc nL rt o) {x y : Int32} (hd : decode cc pc = .ok (.ixor, 1)) (k : J p l e R s m args below meth c cells slots Z o emb A H0 nL (pc + 1) lo (.int (x ^^^ y) :: st) h) : J p l e R s m args below meth c cells slots Z o emb A H0 nL pc lo (.int y :: .int x :: st) h :=
  fun H locs ls hm hl => lv_ixor X.1 X.2.1 hd (k H locs ls hm hl)
theorem J_ishl (X : Cx p s m args meth c own cc nL rt o) {x y : Int32} (hd : decode cc pc = .ok (.ishl, 1)) (k : J p l e R s m args below meth c cells slots Z o emb A H0 nL (pc + 1) lo (.int (x <<< (y &&& 31)) :: st) h) : J p l e R s m args below meth c cells slots Z o emb A H0 nL pc lo (.int y :: .int x :: st) h :=
  fun H locs ls hm hl => lv_ishl X.1 X.2.1 hd (k H locs ls hm hl)
theorem J_ishr (X : Cx p s m args meth c own cc nL rt o) {x y : Int32} (hd : decode cc pc = .ok (.ishr, 1)) (k : J p l e R s m args below meth c cells slots Z o emb A H0 nL (pc + 1) lo (.int (x >>> (y &&& 31)) :: st) h) : J p l e R s m args below meth c cells slots Z o emb A H0 nL pc lo (.int y :: .int x :: st) h :=
  fun H locs ls hm hl => lv_ishr X.1 X.2.1 hd (k H locs ls hm hl)
def iushr (x y : Int32) : Int32 := (x.toUInt32 >>> (y.toUInt32 &&& Int32.toUInt32 31)).toInt32
theorem J_iushr (X : Cx p s m args meth c own cc nL rt o) {x y : Int32} (hd : decode cc pc = .ok (.iushr, 1)) (k : J p l e R s m args below meth c cells slots Z o emb A H0 nL (pc + 1) lo (.int (iushr x y) :: st) h) : J p l e R s m args below meth c cells slots Z o emb A H0 nL pc lo (.int y :: .int x :: st) h :=
  fun H locs ls hm hl => lv_iushr X.1 X.2.1 hd rfl (k H locs ls hm hl)
theorem J_idiv (X : Cx p s m args meth c own cc nL rt o) {x y : Int32} (hd : decode cc pc = .ok (.idiv, 1)) (hne : ¬ y = 0) (k : J p l e R s m args below meth c cells slots Z o emb A H0 nL (pc + 1) lo (.int (x / y) :: st) h) : J p l e R s m args below meth c cells slots Z o emb A H0 nL pc lo (.int y :: .int x :: st) h :=
  fun H locs ls hm hl => lv_idiv X.1 X.2.1 hd hne (k H locs ls hm hl)
def irem (x y : Int32) : Int32 := x - x / y * y
theorem J_irem (X : Cx p s m args meth c own cc nL rt o) {x y : Int32} (hd : decode cc pc = .ok (.irem, 1)) (hne : ¬ y = 0) (k : J p l e R s m args below meth c cells slots Z o emb A H0 nL (pc + 1) lo (.int (irem x y) :: st) h) : J p l e R s m args below meth c cells slots Z o emb A H0 nL pc lo (.int y :: .int x :: st) h :=
  fun H locs ls hm hl => lv_irem X.1 X.2.1 hd hne (k H locs ls hm hl)
theorem J_ladd (X : Cx p s m args meth c own cc nL rt o) {x y : Int64} (hd : decode cc pc = .ok (.ladd, 1)) (k : J p l e R s m args below meth c cells slots Z o emb A H0 nL (pc + 1) lo (.long (x + y) :: st) h) : J p l e R s m args below meth c cells slots Z o emb A H0 nL pc lo (.long y :: .long x :: st) h :=
  fun H locs ls hm hl => lv_ladd X.1 X.2.1 hd (k H locs ls hm hl)
theorem J_lmul (X : Cx p s m args meth c own cc nL rt o) {x y : Int64} (hd : decode cc pc = .ok (.lmul, 1)) (k : J p l e R s m args below meth c cells slots Z o emb A H0 nL (pc + 1) lo (.long (x * y) :: st) h) : J p l e R s m args below meth c cells slots Z o emb A H0 nL pc lo (.long y :: .long x :: st) h :=
  fun H locs ls hm hl => lv_lmul X.1 X.2.1 hd (k H locs ls hm hl)
theorem J_ldiv (X : Cx p s m args meth c own cc nL rt o) {x y : Int64} (hd : decode cc pc = .ok (.ldiv, 1)) (hne : ¬ y = 0) (k : J p l e R s m args below meth c cells slots Z o emb A H0 nL (pc + 1) lo (.long (x / y) :: st) h) : J p l e R s m args below meth c cells slots Z o emb A H0 nL pc lo (.long y :: .long x :: st) h :=
  fun H locs ls hm hl => lv_ldiv X.1 X.2.1 hd hne (k H locs ls hm hl)
def lrem (x y : Int64) : Int64 := x - x / y * y
theorem J_lrem (X : Cx p s m args meth c own cc nL rt o) {x y : Int64} (hd : decode cc pc = .ok (.lrem, 1)) (hne : ¬ y = 0) (k : J p l e R s m args below meth c cells slots Z o emb A H0 nL (pc + 1) lo (.long (lrem x y) :: st) h) : J p l e R s m args below meth c cells slots Z o emb A H0 nL pc lo (.long y :: .long x :: st) h :=
  fun H locs ls hm hl => lv_lrem X.1 X.2.1 hd hne (k H locs ls hm hl)
theorem J_i2l (X : Cx p s m args meth c own cc nL rt o) {x : Int32} (hd : decode cc pc = .ok (.i2l, 1)) (k : J p l e R s m args below meth c cells slots Z o emb A H0 nL (pc + 1) lo (.long x.toInt64 :: st) h) : J p l e R s m args below meth c cells slots Z o emb A H0 nL pc lo (.int x :: st) h :=
  fun H locs ls hm hl => lv_i2l X.1 X.2.1 hd rfl (k H locs ls hm hl)
theorem J_lcmp (X : Cx p s m args meth c own cc nL rt o) {x y : Int64} (hd : decode cc pc = .ok (.lcmp, 1)) (k : J p l e R s m args below meth c cells slots Z o emb A H0 nL (pc + 1) lo (.int (lg_cmp x y) :: st) h) : J p l e R s m args below meth c cells slots Z o emb A H0 nL pc lo (.long y :: .long x :: st) h :=
  fun H locs ls hm hl => W.lcmp X.1 X.2.1 hd (k H locs ls hm hl)
theorem J_pop (X : Cx p s m args meth c own cc nL rt o) {v : Value} (hd : decode cc pc = .ok (.pop, 1)) (hv : v.category = 1) (k : J p l e R s m args below meth c cells slots Z o emb A H0 nL (pc + 1) lo st h) : J p l e R s m args below meth c cells slots Z o emb A H0 nL pc lo (v :: st) h :=
  fun H locs ls hm hl => lv_pop X.1 X.2.1 hd hv (k H locs ls hm hl)
theorem J_dup (X : Cx p s m args meth c own cc nL rt o) {v : Value} (hd : decode cc pc = .ok (.dup, 1)) (hv : v.category = 1) (k : J p l e R s m args below meth c cells slots Z o emb A H0 nL (pc + 1) lo (v :: v :: st) h) : J p l e R s m args below meth c cells slots Z o emb A H0 nL pc lo (v :: st) h :=
  fun H locs ls hm hl => lv_dup X.1 X.2.1 hd hv (k H locs ls hm hl)
theorem J_goto (X : Cx p s m args meth c own cc nL rt o) {off : Int} {tgt : Nat} (hd : decode cc pc = .ok (.goto off, 3)) (ht : (pc : Int) + off = (tgt : Int)) (k : J p l e R s m args below meth c cells slots Z o emb A H0 nL tgt lo st h) : J p l e R s m args below meth c cells slots Z o emb A H0 nL pc lo st h :=
  fun H locs ls hm hl => lv_goto X.1 X.2.1 hd ht (k H locs ls hm hl)
theorem J_topi {x : Int32} (y : Int32) (hy : x = y) (k : J p l e R s m args below meth c cells slots Z o emb A H0 nL pc lo (.int y :: st) h) : J p l e R s m args below meth c cells slots Z o emb A H0 nL pc lo (.int x :: st) h := hy ▸ k
theorem J_topl {x : Int64} (y : Int64) (hy : x = y) (k : J p l e R s m args below meth c cells slots Z o emb A H0 nL pc lo (.long y :: st) h) : J p l e R s m args below meth c cells slots Z o emb A H0 nL pc lo (.long x :: st) h := hy ▸ k
end CORE
