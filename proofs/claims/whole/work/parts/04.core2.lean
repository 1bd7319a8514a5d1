/-! THE CORE, second half: branches, fields and arrays, calls, returns. -/
section CORE2
variable {p : Program} {l : Launch} {e : Env} {R : Room} {s : State} {m : MethodId} {args : Array Value} {below : List Frame} {meth : Method} {c : Code} {cells slots : Nat} {Z : State → Prop} {o : Om} {emb : Hp → va_W} {A : Nat → Prop} {H0 : Heap} {nL pc : Nat} {lo : List (Nat × Value)} {st rest : List Value} {h : Hp} {own : String} {cc : ByteArray} {rt : Option FieldType}
theorem J_if_eq (X : Cx p s m args meth c own cc nL rt o) {x : Int32} {off : Int} {tgt : Nat} (hd : decode cc pc = .ok (.ifCond .eq off, 3)) (ht : (pc : Int) + off = (tgt : Int)) (kt : x = 0 → J p l e R s m args below meth c cells slots Z o emb A H0 nL tgt lo st h) (kf : ¬ x = 0 → J p l e R s m args below meth c cells slots Z o emb A H0 nL (pc + 3) lo st h) : J p l e R s m args below meth c cells slots Z o emb A H0 nL pc lo (.int x :: st) h :=
  fun H locs ls hm hl => lv_if_eq X.1 X.2.1 hd ht (fun q => kt q H locs ls hm hl) (fun q => kf q H locs ls hm hl)
theorem J_icmp_eq (X : Cx p s m args meth c own cc nL rt o) {x y : Int32} {off : Int} {tgt : Nat} (hd : decode cc pc = .ok (.if_icmp .eq off, 3)) (ht : (pc : Int) + off = (tgt : Int)) (kt : x = y → J p l e R s m args below meth c cells slots Z o emb A H0 nL tgt lo st h) (kf : ¬ x = y → J p l e R s m args below meth c cells slots Z o emb A H0 nL (pc + 3) lo st h) : J p l e R s m args below meth c cells slots Z o emb A H0 nL pc lo (.int y :: .int x :: st) h :=
  fun H locs ls hm hl => lv_icmp_eq X.1 X.2.1 hd ht (fun q => kt q H locs ls hm hl) (fun q => kf q H locs ls hm hl)
theorem J_if_ne (X : Cx p s m args meth c own cc nL rt o) {x : Int32} {off : Int} {tgt : Nat} (hd : decode cc pc = .ok (.ifCond .ne off, 3)) (ht : (pc : Int) + off = (tgt : Int)) (kt : ¬ x = 0 → J p l e R s m args below meth c cells slots Z o emb A H0 nL tgt lo st h) (kf : x = 0 → J p l e R s m args below meth c cells slots Z o emb A H0 nL (pc + 3) lo st h) : J p l e R s m args below meth c cells slots Z o emb A H0 nL pc lo (.int x :: st) h :=
  fun H locs ls hm hl => lv_if_ne X.1 X.2.1 hd ht (fun q => kt q H locs ls hm hl) (fun q => kf q H locs ls hm hl)
theorem J_icmp_ne (X : Cx p s m args meth c own cc nL rt o) {x y : Int32} {off : Int} {tgt : Nat} (hd : decode cc pc = .ok (.if_icmp .ne off, 3)) (ht : (pc : Int) + off = (tgt : Int)) (kt : ¬ x = y → J p l e R s m args below meth c cells slots Z o emb A H0 nL tgt lo st h) (kf : x = y → J p l e R s m args below meth c cells slots Z o emb A H0 nL (pc + 3) lo st h) : J p l e R s m args below meth c cells slots Z o emb A H0 nL pc lo (.int y :: .int x :: st) h :=
  fun H locs ls hm hl => lv_icmp_ne X.1 X.2.1 hd ht (fun q => kt q H locs ls hm hl) (fun q => kf q H locs ls hm hl)
theorem J_if_lt (X : Cx p s m args meth c own cc nL rt o) {x : Int32} {off : Int} {tgt : Nat} (hd : decode cc pc = .ok (.ifCond .lt off, 3)) (ht : (pc : Int) + off = (tgt : Int)) (kt : x < 0 → J p l e R s m args below meth c cells slots Z o emb A H0 nL tgt lo st h) (kf : ¬ x < 0 → J p l e R s m args below meth c cells slots Z o emb A H0 nL (pc + 3) lo st h) : J p l e R s m args below meth c cells slots Z o emb A H0 nL pc lo (.int x :: st) h :=
  fun H locs ls hm hl => lv_if_lt X.1 X.2.1 hd ht (fun q => kt q H locs ls hm hl) (fun q => kf q H locs ls hm hl)
theorem J_icmp_lt (X : Cx p s m args meth c own cc nL rt o) {x y : Int32} {off : Int} {tgt : Nat} (hd : decode cc pc = .ok (.if_icmp .lt off, 3)) (ht : (pc : Int) + off = (tgt : Int)) (kt : x < y → J p l e R s m args below meth c cells slots Z o emb A H0 nL tgt lo st h) (kf : ¬ x < y → J p l e R s m args below meth c cells slots Z o emb A H0 nL (pc + 3) lo st h) : J p l e R s m args below meth c cells slots Z o emb A H0 nL pc lo (.int y :: .int x :: st) h :=
  fun H locs ls hm hl => lv_icmp_lt X.1 X.2.1 hd ht (fun q => kt q H locs ls hm hl) (fun q => kf q H locs ls hm hl)
theorem J_if_ge (X : Cx p s m args meth c own cc nL rt o) {x : Int32} {off : Int} {tgt : Nat} (hd : decode cc pc = .ok (.ifCond .ge off, 3)) (ht : (pc : Int) + off = (tgt : Int)) (kt : 0 ≤ x → J p l e R s m args below meth c cells slots Z o emb A H0 nL tgt lo st h) (kf : ¬ 0 ≤ x → J p l e R s m args below meth c cells slots Z o emb A H0 nL (pc + 3) lo st h) : J p l e R s m args below meth c cells slots Z o emb A H0 nL pc lo (.int x :: st) h :=
  fun H locs ls hm hl => lv_if_ge X.1 X.2.1 hd ht (fun q => kt q H locs ls hm hl) (fun q => kf q H locs ls hm hl)
theorem J_icmp_ge (X : Cx p s m args meth c own cc nL rt o) {x y : Int32} {off : Int} {tgt : Nat} (hd : decode cc pc = .ok (.if_icmp .ge off, 3)) (ht : (pc : Int) + off = (tgt : Int)) (kt : y ≤ x → J p l e R s m args below meth c cells slots Z o emb A H0 nL tgt lo st h) (kf : ¬ y ≤ x → J p l e R s m args below meth c cells slots Z o emb A H0 nL (pc + 3) lo st h) : J p l e R s m args below meth c cells slots Z o emb A H0 nL pc lo (.int y :: .int x :: st) h :=
  fun H locs ls hm hl => lv_icmp_ge X.1 X.2.1 hd ht (fun q => kt q H locs ls hm hl) (fun q => kf q H locs ls hm hl)
theorem J_if_gt (X : Cx p s m args meth c own cc nL rt o) {x : Int32} {off : Int} {tgt : Nat} (hd : decode cc pc = .ok (.ifCond .gt off, 3)) (ht : (pc : Int) + off = (tgt : Int)) (kt : 0 < x → J p l e R s m args below meth c cells slots Z o emb A H0 nL tgt lo st h) (kf : ¬ 0 < x → J p l e R s m args below meth c cells slots Z o emb A H0 nL (pc + 3) lo st h) : J p l e R s m args below meth c cells slots Z o emb A H0 nL pc lo (.int x :: st) h :=
  fun H locs ls hm hl => lv_if_gt X.1 X.2.1 hd ht (fun q => kt q H locs ls hm hl) (fun q => kf q H locs ls hm hl)
theorem J_icmp_gt (X : Cx p s m args meth c own cc nL rt o) {x y : Int32} {off : Int} {tgt : Nat} (hd : decode cc pc = .ok (.if_icmp .gt off, 3)) (ht : (pc : Int) + off = (tgt : Int)) (kt : y < x → J p l e R s m args below meth c cells slots Z o emb A H0 nL tgt lo st h) (kf : ¬ y < x → J p l e R s m args below meth c cells slots Z o emb A H0 nL (pc + 3) lo st h) : J p l e R s m args below meth c cells slots Z o emb A H0 nL pc lo (.int y :: .int x :: st) h :=
  fun H locs ls hm hl => lv_icmp_gt X.1 X.2.1 hd ht (fun q => kt q H locs ls hm hl) (fun q => kf q H locs ls hm hl)
theorem J_if_le (X : Cx p s m args meth c own cc nL rt o) {x : Int32} {off : Int} {tgt : Nat} (hd : decode cc pc = .ok (.ifCond .le off, 3)) (ht : (pc : Int) + off = (tgt : Int)) (kt : x ≤ 0 → J p l e R s m args below meth c cells slots Z o emb A H0 nL tgt lo st h) (kf : ¬ x ≤ 0 → J p l e R s m args below meth c cells slots Z o emb A H0 nL (pc + 3) lo st h) : J p l e R s m args below meth c cells slots Z o emb A H0 nL pc lo (.int x :: st) h :=
  fun H locs ls hm hl => lv_if_le X.1 X.2.1 hd ht (fun q => kt q H locs ls hm hl) (fun q => kf q H locs ls hm hl)
theorem J_icmp_le (X : Cx p s m args meth c own cc nL rt o) {x y : Int32} {off : Int} {tgt : Nat} (hd : decode cc pc = .ok (.if_icmp .le off, 3)) (ht : (pc : Int) + off = (tgt : Int)) (kt : x ≤ y → J p l e R s m args below meth c cells slots Z o emb A H0 nL tgt lo st h) (kf : ¬ x ≤ y → J p l e R s m args below meth c cells slots Z o emb A H0 nL (pc + 3) lo st h) : J p l e R s m args below meth c cells slots Z o emb A H0 nL pc lo (.int y :: .int x :: st) h :=
  fun H locs ls hm hl => lv_icmp_le X.1 X.2.1 hd ht (fun q => kt q H locs ls hm hl) (fun q => kf q H locs ls hm hl)
theorem J_tableOut (X : Cx p s m args meth c own cc nL rt o) {dflt lw hi : Int} {offs : Array Int} {len : Nat} {x : Int32} {tgt : Nat} (hd : decode cc pc = .ok (.tableswitch dflt lw hi offs, len)) (hx : x.toInt < lw ∨ hi < x.toInt) (ht : (pc : Int) + dflt = (tgt : Int)) (k : J p l e R s m args below meth c cells slots Z o emb A H0 nL tgt lo st h) : J p l e R s m args below meth c cells slots Z o emb A H0 nL pc lo (.int x :: st) h :=
  fun H locs ls hm hl => lv_tableOut X.1 X.2.1 hd hx ht (k H locs ls hm hl)
theorem J_tableIn (X : Cx p s m args meth c own cc nL rt o) {dflt lw hi : Int} {offs : Array Int} {len : Nat} {x : Int32} {off : Int} {tgt : Nat} (hd : decode cc pc = .ok (.tableswitch dflt lw hi offs, len)) (h1 : ¬ x.toInt < lw) (h2 : ¬ hi < x.toInt) (ho : offs[(x.toInt - lw).toNat]? = some off) (ht : (pc : Int) + off = (tgt : Int)) (k : J p l e R s m args below meth c cells slots Z o emb A H0 nL tgt lo st h) : J p l e R s m args below meth c cells slots Z o emb A H0 nL pc lo (.int x :: st) h :=
  fun H locs ls hm hl => lv_tableIn X.1 X.2.1 hd h1 h2 ho ht (k H locs ls hm hl)
theorem J_lookup (X : Cx p s m args meth c own cc nL rt o) {dflt : Int} {ps : Array (Int × Int)} {len : Nat} {x : Int32} {off : Int} {tgt : Nat} (hd : decode cc pc = .ok (.lookupswitch dflt ps, len)) (hp : (ps.toList.zip (ps.toList.drop 1)).all (fun (a, next) => a.1 < next.1) = true) (ho : Op.lookupswitch.offset ps.toList dflt x.toInt = off) (ht : (pc : Int) + off = (tgt : Int)) (k : J p l e R s m args below meth c cells slots Z o emb A H0 nL tgt lo st h) : J p l e R s m args below meth c cells slots Z o emb A H0 nL pc lo (.int x :: st) h :=
  fun H locs ls hm hl => lv_lookup X.1 X.2.1 hd hp ho ht (k H locs ls hm hl)
/-- fields -/
theorem J_get (X : Cx p s m args meth c own cc nL rt o) {a ci index N : Nat} {fs : Hp → List Value} {wk : List Nat} {ref C : String} {T : u_T} (hO : EO o emb a ci fs wk) (hin : ∀ w ∈ u_ws C T N, w ∈ TT) (hc : vwCl[ci]? = some (C, T, N)) (q : Nat) (hq : q < N) (hw : Cond.fieldLink own index ref (T q).2.1 (T q).2.2.1 ∈ TT) (hs : (T q).1 = ref) {v : Value} (hv : (fs h)[q]? = some v) (hd : decode cc pc = .ok (.getfield index, 3)) (k : J p l e R s m args below meth c cells slots Z o emb A H0 nL (pc + 3) lo (v :: st) h) : J p l e R s m args below meth c cells slots Z o emb A H0 nL pc lo (.ref (o.1 a) :: st) h := by
  obtain ⟨q0, hE⟩ := hO
  intro H locs ls hm hl
  exact va_get X.1 X.2.1 X.2.2.2.2.1 hin X.2.2.2.1 X.2.2.2.2.2.1 hm.1 q0 (hE h).1 hc q hq (X.2.2.2.2.1 _ hw) (fun x h9 => by rw [← hs]; exact h9) hv hd (k H locs ls hm hl)
theorem J_getN (X : Cx p s m args meth c own cc nL rt o) {a ci index N : Nat} {fs : Hp → List Value} {wk : List Nat} {ref C host : String} {T : u_T} (hO : EO o emb a ci fs wk) (hin : ∀ w ∈ u_ws C T N, w ∈ TT) (hc : vwCl[ci]? = some (C, T, N)) (q : Nat) (hq : q < N) (hw : Cond.fieldLinkNest own index ref (T q).2.1 (T q).2.2.1 host ∈ NW) (hs : (T q).1 = ref) {v : Value} (hv : (fs h)[q]? = some v) (hd : decode cc pc = .ok (.getfield index, 3)) (k : J p l e R s m args below meth c cells slots Z o emb A H0 nL (pc + 3) lo (v :: st) h) : J p l e R s m args below meth c cells slots Z o emb A H0 nL pc lo (.ref (o.1 a) :: st) h := by
  obtain ⟨q0, hE⟩ := hO
  intro H locs ls hm hl
  exact va_getN X.1 X.2.1 X.2.2.2.2.1 hin X.2.2.2.1 X.2.2.2.2.2.1 hm.1 q0 (hE h).1 hc q hq (va_Nw.use rfl (X.2.2.2.2.2.2.1 _ hw)) (fun x h9 => by rw [← hs]; exact h9) hv hd (k H locs ls hm hl)
theorem J_put (X : Cx p s m args meth c own cc nL rt o) {a ci index N : Nat} {fs : Hp → List Value} {wk : List Nat} {ref C : String} {T : u_T} (hO : EO o emb a ci fs wk) (hin : ∀ w ∈ u_ws C T N, w ∈ TT) (ty0 : Nat → FieldType) (hty : ∀ k, k < N → parseFieldDescriptor (T k).2.2.1 = some (ty0 k)) (hnm : ∀ a, a < N → ∀ b, b < N → a ≠ b → (T a).2.1 ≠ (T b).2.1) (hc : vwCl[ci]? = some (C, T, N)) (q : Nat) (hq : q < N) (hqw : q ∈ wk) (hw : Cond.fieldLink own index ref (T q).2.1 (T q).2.2.1 ∈ TT) (hs : (T q).1 = ref) (hfin : (T q).2.2.2 = false) {ty : FieldType} {v : Int32} (hd0 : parseFieldDescriptor (T q).2.2.1 = some ty) (hn : narrow ty (.int v) = .int v) (hfit : fits ty (.int v) = true) (hl0 : q < (fs h).length) (hd : decode cc pc = .ok (.putfield index, 3)) (k : J p l e R s m args below meth c cells slots Z o emb A H0 nL (pc + 3) lo st (ip h a q v)) : J p l e R s m args below meth c cells slots Z o emb A H0 nL pc lo (.int v :: .ref (o.1 a) :: st) h := by
  obtain ⟨q0, hE⟩ := hO
  intro H locs ls hm hl
  refine va_put X.1 X.2.1 X.2.2.2.2.1 hin ty0 hty hnm X.2.2.2.1 X.2.2.2.2.2.1 hm.1 (hm.2.2 h) hm.2.1 q0 (hE h).1 hc q hq (X.2.2.2.2.1 _ hw) (fun x h9 => by rw [← hs]; exact h9) hfin hd0 hn hfit hl0 hd (fun H1 locs1 hP _ hS => k H1 locs1 ls ⟨?_, hS, hm.2.2⟩ hl)
  rw [← (hE h).2 q hqw v]
  exact hP
theorem J_putN (X : Cx p s m args meth c own cc nL rt o) {a ci index N : Nat} {fs : Hp → List Value} {wk : List Nat} {ref C host : String} {T : u_T} (hO : EO o emb a ci fs wk) (hin : ∀ w ∈ u_ws C T N, w ∈ TT) (ty0 : Nat → FieldType) (hty : ∀ k, k < N → parseFieldDescriptor (T k).2.2.1 = some (ty0 k)) (hnm : ∀ a, a < N → ∀ b, b < N → a ≠ b → (T a).2.1 ≠ (T b).2.1) (hc : vwCl[ci]? = some (C, T, N)) (q : Nat) (hq : q < N) (hqw : q ∈ wk) (hw : Cond.fieldLinkNest own index ref (T q).2.1 (T q).2.2.1 host ∈ NW) (hs : (T q).1 = ref) (hfin : (T q).2.2.2 = false) {ty : FieldType} {v : Int32} (hd0 : parseFieldDescriptor (T q).2.2.1 = some ty) (hn : narrow ty (.int v) = .int v) (hfit : fits ty (.int v) = true) (hl0 : q < (fs h).length) (hd : decode cc pc = .ok (.putfield index, 3)) (k : J p l e R s m args below meth c cells slots Z o emb A H0 nL (pc + 3) lo st (ip h a q v)) : J p l e R s m args below meth c cells slots Z o emb A H0 nL pc lo (.int v :: .ref (o.1 a) :: st) h := by
  obtain ⟨q0, hE⟩ := hO
  intro H locs ls hm hl
  refine va_putN X.1 X.2.1 X.2.2.2.2.1 hin ty0 hty hnm X.2.2.2.1 X.2.2.2.2.2.1 hm.1 (hm.2.2 h) hm.2.1 q0 (hE h).1 hc q hq (va_Nw.use rfl (X.2.2.2.2.2.2.1 _ hw)) (fun x h9 => by rw [← hs]; exact h9) hfin hd0 hn hfit hl0 hd (fun H1 locs1 hP _ hS => k H1 locs1 ls ⟨?_, hS, hm.2.2⟩ hl)
  rw [← (hE h).2 q hqw v]
  exact hP
/-- arrays -/
theorem J_iald (X : Cx p s m args meth c own cc nL rt o) {a n : Nat} {i : Int32} (hE : EI o emb a n) (hi : vp_in i n) (hd : decode cc pc = .ok (.iaload, 1)) (k : J p l e R s m args below meth c cells slots Z o emb A H0 nL (pc + 1) lo (.int (h.1 a i.toNatClampNeg) :: st) h) : J p l e R s m args below meth c cells slots Z o emb A H0 nL pc lo (.int i :: .ref (o.1 a) :: st) h := by
  obtain ⟨q0, hE⟩ := hE
  intro H locs ls hm hl
  exact va_iald X.1 X.2.1 X.2.2.2.2.2.1 hm.1 q0 0 (hE h).1 rfl hi hd (k H locs ls hm hl)
theorem J_zald (X : Cx p s m args meth c own cc nL rt o) {a n : Nat} {i : Int32} (hE : EZ o emb a n) (hi : vp_in i n) (hd : decode cc pc = .ok (.baload, 1)) (k : J p l e R s m args below meth c cells slots Z o emb A H0 nL (pc + 1) lo (.int (h.1 a i.toNatClampNeg) :: st) h) : J p l e R s m args below meth c cells slots Z o emb A H0 nL pc lo (.int i :: .ref (o.1 a) :: st) h := by
  obtain ⟨q0, hE⟩ := hE
  intro H locs ls hm hl
  exact va_zald X.1 X.2.1 X.2.2.2.2.2.1 hm.1 q0 2 (hE h).1 rfl hi hd (k H locs ls hm hl)
theorem J_lald (X : Cx p s m args meth c own cc nL rt o) {a n : Nat} {i : Int32} (hE : EL o emb a n) (hi : vp_in i n) (hd : decode cc pc = .ok (.laload, 1)) (k : J p l e R s m args below meth c cells slots Z o emb A H0 nL (pc + 1) lo (.long (h.2 a i.toNatClampNeg) :: st) h) : J p l e R s m args below meth c cells slots Z o emb A H0 nL pc lo (.int i :: .ref (o.1 a) :: st) h := by
  obtain ⟨q0, hE⟩ := hE
  intro H locs ls hm hl
  exact va_lald X.1 X.2.1 X.2.2.2.2.2.1 hm.1 q0 1 (hE h).1 rfl hi hd (k H locs ls hm hl)
theorem J_iast (X : Cx p s m args meth c own cc nL rt o) {a n : Nat} {i x : Int32} (hE : EI o emb a n) (hi : vp_in i n) (hd : decode cc pc = .ok (.iastore, 1)) (k : J p l e R s m args below meth c cells slots Z o emb A H0 nL (pc + 1) lo st (ip h a i.toNatClampNeg x)) : J p l e R s m args below meth c cells slots Z o emb A H0 nL pc lo (.int x :: .int i :: .ref (o.1 a) :: st) h := by
  obtain ⟨q0, hE⟩ := hE
  intro H locs ls hm hl
  refine va_iast X.1 X.2.1 X.2.2.2.2.2.1 hm.1 (hm.2.2 h) hm.2.1 q0 0 (hE h).1 rfl hi hd (fun H1 locs1 hP _ hS => k H1 locs1 ls ⟨?_, hS, hm.2.2⟩ hl)
  rw [← (hE h).2]
  exact hP
theorem J_zast (X : Cx p s m args meth c own cc nL rt o) {a n : Nat} {i x : Int32} (hE : EZ o emb a n) (hi : vp_in i n) (hx : vp_nar .boolean x = x) (hd : decode cc pc = .ok (.bastore, 1)) (k : J p l e R s m args below meth c cells slots Z o emb A H0 nL (pc + 1) lo st (ip h a i.toNatClampNeg x)) : J p l e R s m args below meth c cells slots Z o emb A H0 nL pc lo (.int x :: .int i :: .ref (o.1 a) :: st) h := by
  obtain ⟨q0, hE⟩ := hE
  intro H locs ls hm hl
  refine va_zast X.1 X.2.1 X.2.2.2.2.2.1 hm.1 (hm.2.2 h) hm.2.1 q0 2 (hE h).1 rfl hi hd (fun H1 locs1 hP _ hS => k H1 locs1 ls ⟨?_, hS, hm.2.2⟩ hl)
  rw [← (hE h).2]
  rw [hx] at hP
  exact hP
theorem J_last (X : Cx p s m args meth c own cc nL rt o) {a n : Nat} {i : Int32} {x : Int64} (hE : EL o emb a n) (hi : vp_in i n) (hd : decode cc pc = .ok (.lastore, 1)) (k : J p l e R s m args below meth c cells slots Z o emb A H0 nL (pc + 1) lo st (lp h a i.toNatClampNeg x)) : J p l e R s m args below meth c cells slots Z o emb A H0 nL pc lo (.long x :: .int i :: .ref (o.1 a) :: st) h := by
  obtain ⟨q0, hE⟩ := hE
  intro H locs ls hm hl
  refine va_last X.1 X.2.1 X.2.2.2.2.2.1 hm.1 (hm.2.2 h) hm.2.1 q0 1 (hE h).1 rfl hi hd (fun H1 locs1 hP _ hS => k H1 locs1 ls ⟨?_, hS, hm.2.2⟩ hl)
  rw [← (hE h).2]
  exact hP
theorem J_alenI (X : Cx p s m args meth c own cc nL rt o) {a n : Nat} (hE : EI o emb a n) (v : Int32) (hv : Int32.ofNat n = v) (hd : decode cc pc = .ok (.arraylength, 1)) (k : J p l e R s m args below meth c cells slots Z o emb A H0 nL (pc + 1) lo (.int v :: st) h) : J p l e R s m args below meth c cells slots Z o emb A H0 nL pc lo (.ref (o.1 a) :: st) h := by
  obtain ⟨q0, hE⟩ := hE
  intro H locs ls hm hl
  exact va_alen X.1 X.2.1 X.2.2.2.2.2.1 hm.1 q0 0 (hE h).1 (ty := .int) rfl hv hd (k H locs ls hm hl)
theorem J_alenL (X : Cx p s m args meth c own cc nL rt o) {a n : Nat} (hE : EL o emb a n) (v : Int32) (hv : Int32.ofNat n = v) (hd : decode cc pc = .ok (.arraylength, 1)) (k : J p l e R s m args below meth c cells slots Z o emb A H0 nL (pc + 1) lo (.int v :: st) h) : J p l e R s m args below meth c cells slots Z o emb A H0 nL pc lo (.ref (o.1 a) :: st) h := by
  obtain ⟨q0, hE⟩ := hE
  intro H locs ls hm hl
  exact va_alen X.1 X.2.1 X.2.2.2.2.2.1 hm.1 q0 1 (hE h).1 (ty := .long) rfl hv hd (k H locs ls hm hl)
/-- Math.min, Math.max -/
def imin (x y : Int32) : Int32 := if y < x then y else x
def imax (x y : Int32) : Int32 := if x < y then y else x
theorem J_mmin (X : Cx p s m args meth c own cc nL rt o) {index : Nat} {x y : Int32} (h1 : Cond.methodLink own index Lib.Math.min.name ∈ TT) (h2 : Cond.static Lib.Math.min.name ∈ TT) (h3 : Cond.initialized "java/lang/Math" ∈ TT) (h4 : Cond.code Lib.Math.min.name Lib.Math.min.code 2 (some .int) ∈ TT) (hR : 1 ≤ R.frames ∧ (st.map fun v => v.category).sum + 13 ≤ R.locals ∧ cells ≤ R.cells ∧ slots ≤ R.slots) (hd : decode cc pc = .ok (.invokestatic index, 3)) (k : J p l e R s m args below meth c cells slots Z o emb A H0 nL (pc + 3) lo (.int (imin x y) :: st) h) : J p l e R s m args below meth c cells slots Z o emb A H0 nL pc lo (.int y :: .int x :: st) h :=
  fun H locs ls hm hl => va_mmin X.1 X.2.1 (by rw [X.2.2.1]; exact hl.1.symm) X.2.2.2.1 (X.2.2.2.2.1 _ h1) (X.2.2.2.2.1 _ h2) (X.2.2.2.2.1 _ h3) (X.2.2.2.2.1 _ h4) hR.1 hR.2.1 hR.2.2.1 hR.2.2.2 hd (k H locs ls hm hl)
theorem J_mmax (X : Cx p s m args meth c own cc nL rt o) {index : Nat} {x y : Int32} (h1 : Cond.methodLink own index Lib.Math.max.name ∈ TT) (h2 : Cond.static Lib.Math.max.name ∈ TT) (h3 : Cond.initialized "java/lang/Math" ∈ TT) (h4 : Cond.code Lib.Math.max.name Lib.Math.max.code 2 (some .int) ∈ TT) (hR : 1 ≤ R.frames ∧ (st.map fun v => v.category).sum + 13 ≤ R.locals ∧ cells ≤ R.cells ∧ slots ≤ R.slots) (hd : decode cc pc = .ok (.invokestatic index, 3)) (k : J p l e R s m args below meth c cells slots Z o emb A H0 nL (pc + 3) lo (.int (imax x y) :: st) h) : J p l e R s m args below meth c cells slots Z o emb A H0 nL pc lo (.int y :: .int x :: st) h :=
  fun H locs ls hm hl => va_mmax X.1 X.2.1 (by rw [X.2.2.1]; exact hl.1.symm) X.2.2.2.1 (X.2.2.2.2.1 _ h1) (X.2.2.2.2.1 _ h2) (X.2.2.2.2.1 _ h3) (X.2.2.2.2.1 _ h4) hR.1 hR.2.1 hR.2.2.1 hR.2.2.2 hd (k H locs ls hm hl)
/-- a call, once the machine's run of it is known -/
theorem J_run {rv : Option Value} {h' : Hp} {aa : Array Value} (hrun : ∀ (H : Heap) (locs : List Loc) (ls : Array Slot), Mem o emb A H0 h H locs → lv_has ls nL lo → va_Run p l e R s m args below meth c H locs cells slots 0 0 (F0 m pc ls st) rest (WdQ o emb A rv h' aa) A) (k : J p l e R s m args below meth c cells slots Z o emb A H0 nL (pc + 3) lo (rv.toList ++ rest) h') : J p l e R s m args below meth c cells slots Z o emb A H0 nL pc lo st h := by
  intro H locs ls hm hl T hT X
  obtain ⟨v, st₀, t, T', L, h0, X', hL, e1, e2, ⟨⟨hv, hP1⟩, hz, hk⟩, hst⟩ := hrun H locs ls hm hl T hT X
  cases hv
  rw [h0] at hz hk
  have hS := hm.2.1
  obtain ⟨t2, a1, b1⟩ := k T'.heap (locs ++ L) ls ⟨by rw [e1]; exact hP1, ⟨Nat.le_trans hS.1 (by rw [e1]; exact hz), fun q h1 h2 => by rw [e1, hk q (Nat.lt_of_lt_of_le h1 hS.1) h2]; exact hS.2.1 q h1 h2, fun q hq => by
      rcases List.mem_append.mp hq with h | h
      · exact hS.2.2 q h
      · exact hL q h⟩, hm.2.2⟩ hl T' rfl X'
  exact ⟨t2, hst t2 a1, b1⟩
theorem J_callV (X : Cx p s m args meth c own cc nL rt o) {C : String} {y : MethodName} {cy : ByteArray} {nLy index : Nat} {rty : Option FieldType} {f n : Nat} {b ci : Nat} {fs : Hp → List Value} {wk : List Nat} {As rs : List Value} {rv : Option Value} {h' : Hp} {q : vw_C}
    (hM : Ct l o emb A y cy nLy rty f n (.ref (o.1 b) :: As) h rv h') (hO : EO o emb b ci fs wk) (hcl : vwCl[ci]? = some q) (hqC : q.1 = C)
    (w1 : Cond.methodLink own index y ∈ TT) (w2 : Cond.instanceMethod y ∈ TT) (w3 : Cond.selects C y y ∈ TT) (w4 : Cond.initialized y.cls ∈ TT) (w5 : Cond.code y cy nLy rty ∈ TT)
    (hdy : y.cls ≠ "java/lang/invoke/MethodHandle" ∧ y.cls ≠ "java/lang/invoke/VarHandle" ∧ (parseMethodDescriptor y.desc).map (fun d => d.parameters.length) = some As.length) (hR : f + 1 ≤ R.frames ∧ 8 + (nLy + 11) + n ≤ R.locals) (hcs : cells ≤ R.cells ∧ slots ≤ R.slots) (hst : (rest.map fun v => v.category).sum ≤ 8)
    (hd : decode cc pc = .ok (.invokevirtual index, 3)) (hs1 : As.reverse ++ .ref (o.1 b) :: rest = st) (hs2 : rv.toList ++ rest = rs) (k : J p l e R s m args below meth c cells slots Z o emb A H0 nL (pc + 3) lo rs h') : J p l e R s m args below meth c cells slots Z o emb A H0 nL pc lo st h := by
  subst hs1
  subst hs2
  have hts := X.2.2.2.2.1
  obtain ⟨q0, hE⟩ := hO
  refine J_run (fun H locs ls hm hl => va_runV (As := As) (rest := rest) (b := o.1 b) (C := C) ⟨X.1, X.2.1, X.2.2.1, X.2.2.2.1, hts⟩ hM ⟨callB_of As.length hts (goodTT w5) rfl rfl rfl (hts _ w4) (hts _ w1) hdy hR, hts _ w2, hts _ w3⟩ ⟨wd_blind, ?_, fun U hU hW => ⟨rfl, by rw [hU]; exact hm.1, va_K.moved hW.alike X.2.2.2.2.2.1, nw_warm hW X.2.2.2.2.2.2.1⟩⟩ rfl rfl hl.1 rfl (lv_room hst) hd hcs) k
  rw [← hqC]
  exact va_recv X.2.2.2.2.2.1 hm.1 hcl (hE h).1
theorem J_callVN (X : Cx p s m args meth c own cc nL rt o) {C host : String} {y : MethodName} {cy : ByteArray} {nLy index : Nat} {rty : Option FieldType} {f n : Nat} {b ci : Nat} {fs : Hp → List Value} {wk : List Nat} {As rs : List Value} {rv : Option Value} {h' : Hp} {q : vw_C}
    (hM : Ct l o emb A y cy nLy rty f n (.ref (o.1 b) :: As) h rv h') (hO : EO o emb b ci fs wk) (hcl : vwCl[ci]? = some q) (hqC : q.1 = C)
    (w1 : Cond.methodLinkNest own index y host ∈ NW) (w2 : Cond.instanceMethod y ∈ TT) (w3 : Cond.selects C y y ∈ TT) (w4 : Cond.initialized y.cls ∈ TT) (w5 : Cond.code y cy nLy rty ∈ TT)
    (hdy : y.cls ≠ "java/lang/invoke/MethodHandle" ∧ y.cls ≠ "java/lang/invoke/VarHandle" ∧ (parseMethodDescriptor y.desc).map (fun d => d.parameters.length) = some As.length) (hR : f + 1 ≤ R.frames ∧ 8 + (nLy + 11) + n ≤ R.locals) (hcs : cells ≤ R.cells ∧ slots ≤ R.slots) (hst : (rest.map fun v => v.category).sum ≤ 8)
    (hd : decode cc pc = .ok (.invokevirtual index, 3)) (hs1 : As.reverse ++ .ref (o.1 b) :: rest = st) (hs2 : rv.toList ++ rest = rs) (k : J p l e R s m args below meth c cells slots Z o emb A H0 nL (pc + 3) lo rs h') : J p l e R s m args below meth c cells slots Z o emb A H0 nL pc lo st h := by
  subst hs1
  subst hs2
  have hts := X.2.2.2.2.1
  obtain ⟨q0, hE⟩ := hO
  refine J_run (fun H locs ls hm hl => va_runVN (As := As) (rest := rest) (b := o.1 b) (C := C) (host := host) ⟨X.1, X.2.1, X.2.2.1, X.2.2.2.1, hts⟩ hM ⟨va_cnB As.length hts (goodTT w5) rfl rfl rfl (X.2.2.2.2.2.2.1 _ w1) (hts _ w4) hdy hR, hts _ w2, hts _ w3⟩ ⟨wd_blind, ?_, fun U hU hW => ⟨rfl, by rw [hU]; exact hm.1, va_K.moved hW.alike X.2.2.2.2.2.1, nw_warm hW X.2.2.2.2.2.2.1⟩⟩ rfl rfl hl.1 rfl (lv_room hst) hd hcs) k
  rw [← hqC]
  exact va_recv X.2.2.2.2.2.1 hm.1 hcl (hE h).1
theorem J_callS (X : Cx p s m args meth c own cc nL rt o) {y : MethodName} {cy : ByteArray} {nLy index : Nat} {rty : Option FieldType} {f n : Nat} {As rs : List Value} {rv : Option Value} {h' : Hp}
    (hM : Ct l o emb A y cy nLy rty f n As h rv h')
    (w1 : Cond.methodLink own index y ∈ TT) (w2 : Cond.static y ∈ TT) (w4 : Cond.initialized y.cls ∈ TT) (w5 : Cond.code y cy nLy rty ∈ TT)
    (hdy : y.cls ≠ "java/lang/invoke/MethodHandle" ∧ y.cls ≠ "java/lang/invoke/VarHandle" ∧ (parseMethodDescriptor y.desc).map (fun d => d.parameters.length) = some As.length) (hR : f + 1 ≤ R.frames ∧ 8 + (nLy + 11) + n ≤ R.locals) (hcs : cells ≤ R.cells ∧ slots ≤ R.slots) (hst : (rest.map fun v => v.category).sum ≤ 8)
    (hd : decode cc pc = .ok (.invokestatic index, 3)) (hs1 : As.reverse ++ rest = st) (hs2 : rv.toList ++ rest = rs) (k : J p l e R s m args below meth c cells slots Z o emb A H0 nL (pc + 3) lo rs h') : J p l e R s m args below meth c cells slots Z o emb A H0 nL pc lo st h := by
  subst hs1
  subst hs2
  have hts := X.2.2.2.2.1
  exact J_run (fun H locs ls hm hl => va_runS (As := As) (rest := rest) ⟨X.1, X.2.1, X.2.2.1, X.2.2.2.1, hts⟩ hM ⟨callB_of As.length hts (goodTT w5) rfl rfl rfl (hts _ w4) (hts _ w1) hdy hR, hts _ w2⟩ ⟨wd_blind, fun U hU hW => ⟨rfl, by rw [hU]; exact hm.1, va_K.moved hW.alike X.2.2.2.2.2.1, nw_warm hW X.2.2.2.2.2.2.1⟩⟩ rfl rfl hl.1 rfl (lv_room hst) hd hcs) k
theorem J_callSN (X : Cx p s m args meth c own cc nL rt o) {host : String} {y : MethodName} {cy : ByteArray} {nLy index : Nat} {rty : Option FieldType} {f n : Nat} {As rs : List Value} {rv : Option Value} {h' : Hp}
    (hM : Ct l o emb A y cy nLy rty f n As h rv h')
    (w1 : Cond.methodLinkNest own index y host ∈ NW) (w2 : Cond.static y ∈ TT) (w4 : Cond.initialized y.cls ∈ TT) (w5 : Cond.code y cy nLy rty ∈ TT)
    (hdy : y.cls ≠ "java/lang/invoke/MethodHandle" ∧ y.cls ≠ "java/lang/invoke/VarHandle" ∧ (parseMethodDescriptor y.desc).map (fun d => d.parameters.length) = some As.length) (hR : f + 1 ≤ R.frames ∧ 8 + (nLy + 11) + n ≤ R.locals) (hcs : cells ≤ R.cells ∧ slots ≤ R.slots) (hst : (rest.map fun v => v.category).sum ≤ 8)
    (hd : decode cc pc = .ok (.invokestatic index, 3)) (hs1 : As.reverse ++ rest = st) (hs2 : rv.toList ++ rest = rs) (k : J p l e R s m args below meth c cells slots Z o emb A H0 nL (pc + 3) lo rs h') : J p l e R s m args below meth c cells slots Z o emb A H0 nL pc lo st h := by
  subst hs1
  subst hs2
  have hts := X.2.2.2.2.1
  exact J_run (fun H locs ls hm hl => va_runSN (As := As) (rest := rest) (host := host) ⟨X.1, X.2.1, X.2.2.1, X.2.2.2.1, hts⟩ hM ⟨va_cnB As.length hts (goodTT w5) rfl rfl rfl (X.2.2.2.2.2.2.1 _ w1) (hts _ w4) hdy hR, hts _ w2, trivial⟩ ⟨wd_blind, fun U hU hW => ⟨rfl, by rw [hU]; exact hm.1, va_K.moved hW.alike X.2.2.2.2.2.1, nw_warm hW X.2.2.2.2.2.2.1⟩⟩ rfl rfl hl.1 rfl (lv_room hst) hd hcs) k
/-- a method's end -/
theorem J_iret (X : Cx p s m args meth c own cc nL (some .int) o) {v : Int32} (hd : decode cc pc = .ok (.ireturn, 1)) : J p l e R s m args below meth c 0 0 (MQ below (WdQ o emb A (some (.int v)) h) args s 0 0 A) o emb A s.heap nL pc lo [.int v] h :=
  fun H locs ls hm hl => W.iret X.1 X.2.1 X.2.2.2.2.2.2.2.1 (fun t ht _ => ⟨⟨rfl, by rw [ht]; exact hm.1⟩, hm.2.1.F ht⟩) hm.2.1.2.2 hd X.2.2.2.2.2.2.2.2
theorem J_zret (X : Cx p s m args meth c own cc nL (some .boolean) o) {v : Int32} (hv : narrow .boolean (.int v) = .int v) (hd : decode cc pc = .ok (.ireturn, 1)) : J p l e R s m args below meth c 0 0 (MQ below (WdQ o emb A (some (.int v)) h) args s 0 0 A) o emb A s.heap nL pc lo [.int v] h :=
  fun H locs ls hm hl => W.zret X.1 X.2.1 X.2.2.2.2.2.2.2.1 hv (fun t ht _ => ⟨⟨rfl, by rw [ht]; exact hm.1⟩, hm.2.1.F ht⟩) hm.2.1.2.2 hd X.2.2.2.2.2.2.2.2
theorem J_lret (X : Cx p s m args meth c own cc nL (some .long) o) {v : Int64} (hd : decode cc pc = .ok (.lreturn, 1)) : J p l e R s m args below meth c 0 0 (MQ below (WdQ o emb A (some (.long v)) h) args s 0 0 A) o emb A s.heap nL pc lo [.long v] h :=
  fun H locs ls hm hl => W.lret X.1 X.2.1 X.2.2.2.2.2.2.2.1 (fun t ht _ => ⟨⟨rfl, by rw [ht]; exact hm.1⟩, hm.2.1.F ht⟩) hm.2.1.2.2 hd X.2.2.2.2.2.2.2.2
theorem J_vret (X : Cx p s m args meth c own cc nL none o) (hd : decode cc pc = .ok (.return_, 1)) : J p l e R s m args below meth c 0 0 (MQ below (WdQ o emb A none h) args s 0 0 A) o emb A s.heap nL pc lo [] h :=
  fun H locs ls hm hl => W.vret X.1 X.2.1 X.2.2.2.2.2.2.2.1 (fun t ht _ => ⟨⟨rfl, by rw [ht]; exact hm.1⟩, hm.2.1.F ht⟩) hm.2.1.2.2 hd X.2.2.2.2.2.2.2.2
/-- a contract out of a walk of the body -/
theorem Ct.of {y : MethodName} {f n : Nat} {av : List Value} {rv : Option Value} {h' : Hp} (own : String) (hown : y.cls = own) (hy : plainName y.cls = true) (hA : ∀ h : Hp, va_D A (emb h)) (hn : (lg_sl av).length ≤ nL)
    (body : ∀ (p : Program) (e : Env) (s : State) (m : MethodId) (args : Array Value) (below : List Frame) (meth : Method) (c : Code), Cx p s m args meth c own cc nL rt o → J p l e (rmf f n) s m args below meth c 0 0 (MQ below (WdQ o emb A rv h') args s 0 0 A) o emb A s.heap nL 0 (lv_args 0 av) [] h) : Ct l o emb A y cc nL rt f n av h rv h' := by
  refine Met.ofW (cc := cc) (maxL := nL) (ret := rt) hy rfl ?_
  intro p e s m args below meth c s₁ B hml hv
  obtain ⟨hav, hP, hK, hN⟩ := hv
  have hts : ∀ w ∈ TT, w.before args s = true := fun w hw => atoms_spec (ws := .code y cc nL rt :: TT) B.pre w (List.mem_cons_of_mem _ hw)
  have hcl : s.vm.findClass own = some m.cls := by rw [← hown]; exact findClass_of_methodNamed B.named
  have K := body p e s m args below meth c ⟨B.exec, B.bytes, hml, hcl, hts, hK, hN, B.returns, B.notSynchronized⟩ s.heap [] _ ⟨hP, va_S.rf, hA⟩ (lv_entry av hn)
  rw [hav, lg_entry_eq]
  rw [hav] at K
  exact K
end CORE2
theorem ob {α β : Type} {x : Option α} {f : α → Option β} {b : β} (h : x.bind f = some b) : ∃ a, x = some a ∧ f a = some b := Option.bind_eq_some_iff.mp h
/-- reads and divisions that may fail -/
def ald (n : Nat) (h : Hp) (r : Nat) (i : Int32) : Option Int32 := if i < 0 ∨ n ≤ i.toNatClampNeg then none else some (h.1 r i.toNatClampNeg)
def lald (n : Nat) (h : Hp) (r : Nat) (i : Int32) : Option Int64 := if i < 0 ∨ n ≤ i.toNatClampNeg then none else some (h.2 r i.toNatClampNeg)
def ast (n : Nat) (h : Hp) (r : Nat) (i x : Int32) : Option Hp := if i < 0 ∨ n ≤ i.toNatClampNeg then none else some (ip h r i.toNatClampNeg x)
def last (n : Nat) (h : Hp) (r : Nat) (i : Int32) (x : Int64) : Option Hp := if i < 0 ∨ n ≤ i.toNatClampNeg then none else some (lp h r i.toNatClampNeg x)
def zast (n : Nat) (h : Hp) (r : Nat) (i x : Int32) : Option Hp := if i < 0 ∨ n ≤ i.toNatClampNeg then none else if x = 0 ∨ x = 1 then some (ip h r i.toNatClampNeg x) else none
def idv (x y : Int32) : Option Int32 := if y = 0 then none else some (x / y)
def irm (x y : Int32) : Option Int32 := if y = 0 then none else some (irem x y)
def ldv (x y : Int64) : Option Int64 := if y = 0 then none else some (x / y)
def lrm (x y : Int64) : Option Int64 := if y = 0 then none else some (lrem x y)
def zck (x : Int32) : Option Int32 := if x = 0 ∨ x = 1 then some x else none
theorem ald_s {n : Nat} {h : Hp} {r : Nat} {i v : Int32} (e : ald n h r i = some v) : vp_in i n ∧ h.1 r i.toNatClampNeg = v := by
  unfold ald at e
  split at e
  · cases e
  · next q => exact ⟨q, Option.some.inj e⟩
theorem lald_s {n : Nat} {h : Hp} {r : Nat} {i : Int32} {v : Int64} (e : lald n h r i = some v) : vp_in i n ∧ h.2 r i.toNatClampNeg = v := by
  unfold lald at e
  split at e
  · cases e
  · next q => exact ⟨q, Option.some.inj e⟩
theorem ast_s {n : Nat} {h h' : Hp} {r : Nat} {i x : Int32} (e : ast n h r i x = some h') : vp_in i n ∧ ip h r i.toNatClampNeg x = h' := by
  unfold ast at e
  split at e
  · cases e
  · next q => exact ⟨q, Option.some.inj e⟩
theorem last_s {n : Nat} {h h' : Hp} {r : Nat} {i : Int32} {x : Int64} (e : last n h r i x = some h') : vp_in i n ∧ lp h r i.toNatClampNeg x = h' := by
  unfold last at e
  split at e
  · cases e
  · next q => exact ⟨q, Option.some.inj e⟩
theorem zck_n {x : Int32} (q : x = 0 ∨ x = 1) : narrow .boolean (.int x) = .int x := by
  rcases q with rfl | rfl <;> rfl
theorem zast_s {n : Nat} {h h' : Hp} {r : Nat} {i x : Int32} (e : zast n h r i x = some h') : vp_in i n ∧ vp_nar .boolean x = x ∧ ip h r i.toNatClampNeg x = h' := by
  unfold zast at e
  split at e
  · cases e
  · next q =>
    split at e
    · next q2 => exact ⟨q, by rcases q2 with rfl | rfl <;> rfl, Option.some.inj e⟩
    · cases e
theorem idv_s {x y v : Int32} (e : idv x y = some v) : ¬ y = 0 ∧ x / y = v := by
  unfold idv at e
  split at e
  · cases e
  · next q => exact ⟨q, Option.some.inj e⟩
theorem irm_s {x y v : Int32} (e : irm x y = some v) : ¬ y = 0 ∧ irem x y = v := by
  unfold irm at e
  split at e
  · cases e
  · next q => exact ⟨q, Option.some.inj e⟩
theorem ldv_s {x y v : Int64} (e : ldv x y = some v) : ¬ y = 0 ∧ x / y = v := by
  unfold ldv at e
  split at e
  · cases e
  · next q => exact ⟨q, Option.some.inj e⟩
theorem lrm_s {x y v : Int64} (e : lrm x y = some v) : ¬ y = 0 ∧ lrem x y = v := by
  unfold lrm at e
  split at e
  · cases e
  · next q => exact ⟨q, Option.some.inj e⟩
theorem zck_s {x v : Int32} (e : zck x = some v) : narrow .boolean (.int x) = .int x ∧ x = v := by
  unfold zck at e
  split at e
  · next q => exact ⟨zck_n q, Option.some.inj e⟩
  · cases e
