/-! CONSTRUCTORS: worlds that grow; rows for new objects and arrays, final fields, constructors called. -/
def kw (w1 L : va_W) : Hp → va_W := fun _ => w1 ++ L
def rmc (f n mc ms : Nat) : Room := { frames := f, cells := mc, slots := ms, locals := n }
def WdPn (o : Om) (A : Nat → Prop) (ws : va_W) (av : List Value) : Array Value → State → Prop := va_Pc av (fun U => va_P o.2.1 vwCl ws U.heap ∧ va_K o.2.1 vwCl (tyO o) U ∧ (∀ w ∈ NW, va_Nw w U) ∧ va_D A ws ∧ ∀ q, U.heap.size ≤ q → A q)
def WdQn (o : Om) (A : Nat → Prop) (P : va_W → Prop) : Array Value → State → Outcome → State → Prop := fun _ st oc t => (oc = .returned none ∧ ∃ ws', P ws' ∧ va_P o.2.1 vwCl ws' t.heap ∧ va_D A ws') ∧ va_F A st t
def Cn (l : Launch) (o : Om) (A : Nat → Prop) (y : MethodName) (cc : ByteArray) (nL f n mc ms : Nat) (ws : va_W) (av : List Value) (P : va_W → Prop) : Prop :=
  Met l y (.code y cc nL none :: TT) (rmc f n mc ms) (WdPn o A ws av) (WdQn o A P) mc ms A
theorem wdn_blind {o : Om} {A : Nat → Prop} {ws : va_W} {av : List Value} : FrameBlind (WdPn o A ws av) := by
  intro a U g mk hq
  obtain ⟨q0, qP, qK, qN, qD, qA⟩ := hq
  exact ⟨q0, qP, va_K.moved (u := U) (U := U.calling g mk a) (Vm.Alike.refl U.vm) qK, nw_moved (u := U) (U := U.calling g mk a) rfl qN, qD, qA⟩
theorem kw_get {w1 L : va_W} {j : Nat} {x : Nat × va_E} (he : L[j]? = some x) : (w1 ++ L)[w1.length + j]? = some x := by
  rw [List.getElem?_append_right (Nat.le_add_right _ _), Nat.add_sub_cancel_left]
  exact he
theorem kw_set {w1 L : va_W} {j : Nat} {x : Nat × va_E} : (w1 ++ L).set (w1.length + j) x = w1 ++ L.set j x := by
  rw [List.set_append_right _ _ (Nat.le_add_right _ _), Nat.add_sub_cancel_left]
theorem va_D_fst {A : Nat → Prop} {w1 w2 : va_W} (hf : w1.map Prod.fst = w2.map Prod.fst) (h : va_D A w1) : va_D A w2 := by
  have key : ∀ (k : Nat) (q : Nat × va_E), w2[k]? = some q → ∃ q', w1[k]? = some q' ∧ q'.1 = q.1 := by
    intro k q hk
    have h1 : (w2.map Prod.fst)[k]? = some q.1 := by rw [List.getElem?_map, hk]; rfl
    rw [← hf, List.getElem?_map] at h1
    cases hq : w1[k]? with
    | none => rw [hq] at h1; cases h1
    | some q' => rw [hq] at h1; exact ⟨q', rfl, Option.some.inj h1⟩
  refine ⟨fun i j p q hi hj hpq => ?_, fun k q hk => ?_⟩
  · obtain ⟨p', hp', ep⟩ := key i p hi
    obtain ⟨q', hq', eq⟩ := key j q hj
    exact h.1 i j p' q' hp' hq' (ep.trans (hpq.trans eq.symm))
  · obtain ⟨q', hq', eq⟩ := key k q hk
    rw [← eq]
    exact h.2 k q' hq'
section CTOR
variable {p : Program} {l : Launch} {e : Env} {R : Room} {s : State} {m : MethodId} {args : Array Value} {below : List Frame} {meth : Method} {c : Code} {cells slots : Nat} {Z : State → Prop} {o : Om} {emb : Hp → va_W} {A : Nat → Prop} {H0 : Heap} {nL pc : Nat} {lo : List (Nat × Value)} {st rest : List Value} {h : Hp} {own : String} {cc : ByteArray} {rt : Option FieldType} {w1 wq L : va_W}
/-- one world told in two ways -/
theorem J_sw {o2 : Om} {emb2 : Hp → va_W} {h2 : Hp} (ho : o2.2 = o.2) (he : emb h = emb2 h2) (hD : va_D A (emb2 h2) → ∀ h, va_D A (emb2 h)) (k : J p l e R s m args below meth c cells slots Z o2 emb2 A H0 nL pc lo st h2) : J p l e R s m args below meth c cells slots Z o emb A H0 nL pc lo st h := by
  intro H locs ls hm hl
  refine k H locs ls ⟨?_, hm.2.1, hD ?_⟩ hl
  · rw [ho, ← he]
    exact hm.1
  · rw [← he]
    exact hm.2.2 h
theorem J_objInit (X : Cx p s m args meth c own cc nL rt o) {idx a : Nat} (w1 : Cond.methodLink own idx objectInit ∈ TT) (w2 : Cond.instanceMethod objectInit ∈ TT) (w3 : Cond.code objectInit ⟨#[0xb1]⟩ 1 none ∈ TT) (hR : 1 ≤ R.frames ∧ (st.map fun v => v.category).sum + 12 ≤ R.locals) (hd : decode cc pc = .ok (.invokespecial idx, 3)) (k : J p l e R s m args below meth c cells slots Z o emb A H0 nL (pc + 3) lo st h) : J p l e R s m args below meth c cells slots Z o emb A H0 nL pc lo (.ref a :: st) h :=
  fun H locs ls hm hl => W.objInit (g := F0 m pc ls (.ref a :: st)) X.1 X.2.1 X.2.2.2.1 (X.2.2.2.2.1 _ w1) (X.2.2.2.2.1 _ w2) (X.2.2.2.2.1 _ w3) rfl (by rw [X.2.2.1]; exact hl.1) rfl hd hR.1 (by show 2 * 0 + _ + 12 ≤ _; omega) (k H locs ls hm hl)
theorem J_new (X : Cx p s m args meth c own cc nL rt o) (hA : ∀ q, H0.size ≤ q → A q) {C : String} {T : u_T} {N ci index : Nat} (hin : ∀ w ∈ u_ws C T N, w ∈ TT) (ty : Nat → FieldType) (hty : ∀ k, k < N → parseFieldDescriptor (T k).2.2.1 = some (ty k)) (q1 : Cond.classLink own index C ∈ TT) (q2 : Cond.instantiable C N ∈ TT) (q3 : Cond.initialized C ∈ TT) (hc : vwCl[ci]? = some (C, T, N)) (fs : List Value) (hfs : ∀ j, j < N → defaultValue (ty j) = vp_V fs j) (hcs : cells + 1 ≤ R.cells ∧ slots + N ≤ R.slots) (hd : decode cc pc = .ok (.new index, 3))
    (k : ∀ q : Nat, J p l e R s m args below meth c (cells + 1) (slots + N) Z o (kw w1 (L ++ [(q, .inr (ci, fs))])) A H0 nL (pc + 3) lo (.ref q :: st) h) : J p l e R s m args below meth c cells slots Z o (kw w1 L) A H0 nL pc lo st h := by
  intro H locs ls hm hl
  refine va_new X.1 X.2.1 X.2.2.2.2.1 hin ty hty X.2.2.2.1 (X.2.2.2.2.1 _ q1) (X.2.2.2.2.1 _ q2) (X.2.2.2.2.1 _ q3) X.2.2.2.2.2.1 hm.1 (hm.2.2 h) hm.2.1 hA hc hfs hcs.1 hcs.2 hd (fun q H1 hP hD hS => k q H1 locs ls ⟨?_, hS, fun _ => ?_⟩ hl)
  · show va_P _ _ (w1 ++ (L ++ [_])) _
    rw [← List.append_assoc]
    exact hP
  · show va_D _ (w1 ++ (L ++ [_]))
    rw [← List.append_assoc]
    exact hD
theorem J_newaI (X : Cx p s m args meth c own cc nL rt o) (hA : ∀ q, H0.size ≤ q → A q) (q1 : Cond.arrayClass .int ∈ TT) {x : Int32} (n : Nat) (hx : ¬ x < 0) (hn : x.toNatClampNeg = n) (hb : n * componentBytes .int ≤ 536870912) (hcs : cells + 1 ≤ R.cells ∧ slots + n ≤ R.slots) (hd : decode cc pc = .ok (.newarray .int, 2))
    (k : ∀ q : Nat, J p l e R s m args below meth c (cells + 1) (slots + n) Z o (kw w1 (L ++ [(q, .inl (o.2.2.1, (n, .inl (fun _ => 0))))])) A H0 nL (pc + 2) lo (.ref q :: st) h) : J p l e R s m args below meth c cells slots Z o (kw w1 L) A H0 nL pc lo (.int x :: st) h := by
  intro H locs ls hm hl
  refine va_newa X.1 X.2.1 (atype := .int) (X.2.2.2.2.1 _ q1) (ty := .int) rfl X.2.2.2.2.2.1 hm.1 (hm.2.2 h) hm.2.1 hA (a0 := (n, .inl (fun _ => 0))) (fun _ => rfl) hx hn hb hcs.1 hcs.2 hd (fun q cA H1 hK hP hD hS => ?_)
  have h1 := (hK.2 3 (cA, .int) rfl).2
  have h2 := (hK.2 0 (o.2.2.1, .int) rfl).2
  have h3 : cA = o.2.2.1 := Option.some.inj (Eq.trans (Eq.symm h1) h2)
  subst h3
  refine k q H1 locs ls ⟨?_, hS, fun _ => ?_⟩ hl
  · show va_P _ _ (w1 ++ (L ++ [_])) _
    rw [← List.append_assoc]
    exact hP
  · show va_D _ (w1 ++ (L ++ [_]))
    rw [← List.append_assoc]
    exact hD
theorem J_newaL (X : Cx p s m args meth c own cc nL rt o) (hA : ∀ q, H0.size ≤ q → A q) (q1 : Cond.arrayClass .long ∈ TT) {x : Int32} (n : Nat) (hx : ¬ x < 0) (hn : x.toNatClampNeg = n) (hb : n * componentBytes .long ≤ 536870912) (hcs : cells + 1 ≤ R.cells ∧ slots + n ≤ R.slots) (hd : decode cc pc = .ok (.newarray .long, 2))
    (k : ∀ q : Nat, J p l e R s m args below meth c (cells + 1) (slots + n) Z o (kw w1 (L ++ [(q, .inl (o.2.2.2.1, (n, .inr (.inl (fun _ => 0)))))])) A H0 nL (pc + 2) lo (.ref q :: st) h) : J p l e R s m args below meth c cells slots Z o (kw w1 L) A H0 nL pc lo (.int x :: st) h := by
  intro H locs ls hm hl
  refine va_newa X.1 X.2.1 (atype := .long) (X.2.2.2.2.1 _ q1) (ty := .long) rfl X.2.2.2.2.2.1 hm.1 (hm.2.2 h) hm.2.1 hA (a0 := (n, .inr (.inl (fun _ => 0)))) (fun _ => rfl) hx hn hb hcs.1 hcs.2 hd (fun q cA H1 hK hP hD hS => ?_)
  have h1 := (hK.2 3 (cA, .long) rfl).2
  have h2 := (hK.2 1 (o.2.2.2.1, .long) rfl).2
  have h3 : cA = o.2.2.2.1 := Option.some.inj (Eq.trans (Eq.symm h1) h2)
  subst h3
  refine k q H1 locs ls ⟨?_, hS, fun _ => ?_⟩ hl
  · show va_P _ _ (w1 ++ (L ++ [_])) _
    rw [← List.append_assoc]
    exact hP
  · show va_D _ (w1 ++ (L ++ [_]))
    rw [← List.append_assoc]
    exact hD
theorem J_newaZ (X : Cx p s m args meth c own cc nL rt o) (hA : ∀ q, H0.size ≤ q → A q) (q1 : Cond.arrayClass .boolean ∈ TT) {x : Int32} (n : Nat) (hx : ¬ x < 0) (hn : x.toNatClampNeg = n) (hb : n * componentBytes .boolean ≤ 536870912) (hcs : cells + 1 ≤ R.cells ∧ slots + n ≤ R.slots) (hd : decode cc pc = .ok (.newarray .boolean, 2))
    (k : ∀ q : Nat, J p l e R s m args below meth c (cells + 1) (slots + n) Z o (kw w1 (L ++ [(q, .inl (o.2.2.2.2, (n, .inl (fun _ => 0))))])) A H0 nL (pc + 2) lo (.ref q :: st) h) : J p l e R s m args below meth c cells slots Z o (kw w1 L) A H0 nL pc lo (.int x :: st) h := by
  intro H locs ls hm hl
  refine va_newa X.1 X.2.1 (atype := .boolean) (X.2.2.2.2.1 _ q1) (ty := .boolean) rfl X.2.2.2.2.2.1 hm.1 (hm.2.2 h) hm.2.1 hA (a0 := (n, .inl (fun _ => 0))) (fun _ => rfl) hx hn hb hcs.1 hcs.2 hd (fun q cA H1 hK hP hD hS => ?_)
  have h1 := (hK.2 3 (cA, .boolean) rfl).2
  have h2 := (hK.2 2 (o.2.2.2.2, .boolean) rfl).2
  have h3 : cA = o.2.2.2.2 := Option.some.inj (Eq.trans (Eq.symm h1) h2)
  subst h3
  refine k q H1 locs ls ⟨?_, hS, fun _ => ?_⟩ hl
  · show va_P _ _ (w1 ++ (L ++ [_])) _
    rw [← List.append_assoc]
    exact hP
  · show va_D _ (w1 ++ (L ++ [_]))
    rw [← List.append_assoc]
    exact hD
theorem J_putK (X : Cx p s m args meth c own cc nL rt o) {a ci index N : Nat} (j : Nat) {fs : List Value} {ref C : String} {T : u_T} (he : L[j]? = some (a, .inr (ci, fs))) (hin : ∀ w ∈ u_ws C T N, w ∈ TT) (ty0 : Nat → FieldType) (hty : ∀ k, k < N → parseFieldDescriptor (T k).2.2.1 = some (ty0 k)) (hnm : ∀ a, a < N → ∀ b, b < N → a ≠ b → (T a).2.1 ≠ (T b).2.1) (hc : vwCl[ci]? = some (C, T, N)) (q : Nat) (hq : q < N) (hw : Cond.fieldLink own index ref (T q).2.1 (T q).2.2.1 ∈ TT) (hs : (T q).1 = ref) (hfin : (T q).2.2.2 = false) {ty : FieldType} {v : Value} (hd0 : parseFieldDescriptor (T q).2.2.1 = some ty) (hn : narrow ty v = v) (hfit : fits ty v = true) (hl0 : q < fs.length) (L' : va_W) (hL : L.set j (a, .inr (ci, fs.set q v)) = L') (hd : decode cc pc = .ok (.putfield index, 3)) (k : J p l e R s m args below meth c cells slots Z o (kw w1 L') A H0 nL (pc + 3) lo st h) : J p l e R s m args below meth c cells slots Z o (kw w1 L) A H0 nL pc lo (v :: .ref a :: st) h := by
  subst hL
  intro H locs ls hm hl
  refine va_put X.1 X.2.1 X.2.2.2.2.1 hin ty0 hty hnm X.2.2.2.1 X.2.2.2.2.2.1 hm.1 (hm.2.2 h) hm.2.1 (w1.length + j) (kw_get he) hc q hq (X.2.2.2.2.1 _ hw) (fun x h9 => by rw [← hs]; exact h9) hfin hd0 hn hfit hl0 hd (fun H1 locs1 hP hD hS => k H1 locs1 ls ⟨?_, hS, fun _ => ?_⟩ hl)
  · show va_P _ _ (w1 ++ L.set j _) _
    rw [← kw_set]
    exact hP
  · show va_D _ (w1 ++ L.set j _)
    rw [← kw_set]
    exact hD
theorem J_putF (X : Cx p s m args meth c own cc nL rt o) (hin2 : meth.name = "<init>") {a ci index N : Nat} (j : Nat) {fs : List Value} {ref C : String} {T : u_T} (he : L[j]? = some (a, .inr (ci, fs))) (hin : ∀ w ∈ u_ws C T N, w ∈ TT) (ty0 : Nat → FieldType) (hty : ∀ k, k < N → parseFieldDescriptor (T k).2.2.1 = some (ty0 k)) (hnm : ∀ a, a < N → ∀ b, b < N → a ≠ b → (T a).2.1 ≠ (T b).2.1) (hc : vwCl[ci]? = some (C, T, N)) (q : Nat) (hq : q < N) (hw : Cond.fieldLink own index ref (T q).2.1 (T q).2.2.1 ∈ TT) (hs : (T q).1 = ref) (hfin : (T q).2.2.2 = true) (hdecl : (T q).1 = own) {ty : FieldType} {v : Value} (hd0 : parseFieldDescriptor (T q).2.2.1 = some ty) (hn : narrow ty v = v) (hfit : fits ty v = true) (hl0 : q < fs.length) (L' : va_W) (hL : L.set j (a, .inr (ci, fs.set q v)) = L') (hd : decode cc pc = .ok (.putfield index, 3)) (k : J p l e R s m args below meth c cells slots Z o (kw w1 L') A H0 nL (pc + 3) lo st h) : J p l e R s m args below meth c cells slots Z o (kw w1 L) A H0 nL pc lo (v :: .ref a :: st) h := by
  subst hL
  intro H locs ls hm hl
  refine va_putF X.1 X.2.1 X.2.2.2.2.1 hin ty0 hty hnm X.2.2.2.1 X.2.2.2.2.2.1 hm.1 (hm.2.2 h) hm.2.1 (w1.length + j) (kw_get he) hc q hq (X.2.2.2.2.1 _ hw) (fun x h9 => by rw [← hs]; exact h9) hfin hin2 hdecl hd0 hn hfit hl0 hd (fun H1 locs1 hP hD hS => k H1 locs1 ls ⟨?_, hS, fun _ => ?_⟩ hl)
  · show va_P _ _ (w1 ++ L.set j _) _
    rw [← kw_set]
    exact hP
  · show va_D _ (w1 ++ L.set j _)
    rw [← kw_set]
    exact hD
theorem J_getK (X : Cx p s m args meth c own cc nL rt o) {a ci index N : Nat} (j : Nat) {fs : List Value} {ref C : String} {T : u_T} (he : L[j]? = some (a, .inr (ci, fs))) (hin : ∀ w ∈ u_ws C T N, w ∈ TT) (hc : vwCl[ci]? = some (C, T, N)) (q : Nat) (hq : q < N) (hw : Cond.fieldLink own index ref (T q).2.1 (T q).2.2.1 ∈ TT) (hs : (T q).1 = ref) {v : Value} (hv : fs[q]? = some v) (hd : decode cc pc = .ok (.getfield index, 3)) (k : J p l e R s m args below meth c cells slots Z o (kw w1 L) A H0 nL (pc + 3) lo (v :: st) h) : J p l e R s m args below meth c cells slots Z o (kw w1 L) A H0 nL pc lo (.ref a :: st) h := by
  intro H locs ls hm hl
  exact va_get X.1 X.2.1 X.2.2.2.2.1 hin X.2.2.2.1 X.2.2.2.2.2.1 hm.1 (w1.length + j) (kw_get he) hc q hq (X.2.2.2.2.1 _ hw) (fun x h9 => by rw [← hs]; exact h9) hv hd (k H locs ls hm hl)
theorem J_callI (X : Cx p s m args meth c own cc nL rt o) (hA : ∀ q, H0.size ≤ q → A q) {y : MethodName} {cy : ByteArray} {nLy index : Nat} {f n mc ms b : Nat} {eb : va_E} {P : va_W → Prop}
    (hM : Cn l o A y cy nLy f n mc ms ((wq ++ L) ++ [(b, eb)]) [.ref b] P)
    (w1 : Cond.methodLink own index y ∈ TT) (w2 : Cond.instanceMethod y ∈ TT) (w4 : Cond.initialized y.cls ∈ TT) (w5 : Cond.code y cy nLy none ∈ TT) (hyn : y.name = "<init>")
    (hdy : y.cls ≠ "java/lang/invoke/MethodHandle" ∧ y.cls ≠ "java/lang/invoke/VarHandle" ∧ (parseMethodDescriptor y.desc).map (fun d => d.parameters.length) = some 0) (hR : f + 1 ≤ R.frames ∧ 8 + (nLy + 11) + n ≤ R.locals) (hcs : cells + mc ≤ R.cells ∧ slots + ms ≤ R.slots) (hst : (st.map fun v => v.category).sum ≤ 8)
    (hd : decode cc pc = .ok (.invokespecial index, 3)) (k : ∀ ws', P ws' → J p l e R s m args below meth c (cells + mc) (slots + ms) Z o (fun _ => ws') A H0 nL (pc + 3) lo st h) : J p l e R s m args below meth c cells slots Z o (kw wq (L ++ [(b, eb)])) A H0 nL pc lo (.ref b :: st) h := by
  have hts := X.2.2.2.2.1
  intro H locs ls hm hl T hT X0
  have hS := hm.2.1
  have hm1 : va_P o.2.1 vwCl ((wq ++ L) ++ [(b, eb)]) H := by rw [List.append_assoc]; exact hm.1
  have hm2 : va_D A ((wq ++ L) ++ [(b, eb)]) := by rw [List.append_assoc]; exact hm.2.2 h
  have hrun := va_runI (p := p) (e := e) (below := below) (meth := meth) (H := H) (locs := locs) (cells := cells) (slots := slots) (g := F0 m pc ls (.ref b :: st)) (As := []) (rest := st) (b := b) ⟨X.1, X.2.1, X.2.2.1, X.2.2.2.1, hts⟩ hM ⟨callB_of 0 hts (goodTT w5) rfl rfl rfl (hts _ w4) (hts _ w1) hdy hR, hyn, hts _ w2⟩ ⟨wdn_blind, fun U hU hW => ⟨rfl, by rw [hU]; exact hm1, va_K.moved hW.alike X.2.2.2.2.2.1, nw_warm hW X.2.2.2.2.2.2.1, hm2, fun q hq => hA q (Nat.le_trans hS.1 (by rw [← hU]; exact hq))⟩⟩ rfl rfl hl.1 rfl (lv_room hst) hd hcs
  obtain ⟨v, st₀, t, T', Lq, h0, X', hL, e1, e2, ⟨⟨hv, ws', hPw, hP1, hD1⟩, hz, hk⟩, hst2⟩ := hrun T hT X0
  cases hv
  rw [h0] at hz hk
  obtain ⟨t2, a1, b1⟩ := k ws' hPw T'.heap (locs ++ Lq) ls ⟨by rw [e1]; exact hP1, ⟨Nat.le_trans hS.1 (by rw [e1]; exact hz), fun q h1 h2 => by rw [e1, hk q (Nat.lt_of_lt_of_le h1 hS.1) h2]; exact hS.2.1 q h1 h2, fun q hq => by
      rcases List.mem_append.mp hq with h | h
      · exact hS.2.2 q h
      · exact hL q h⟩, fun _ => hD1⟩ hl T' rfl X'
  exact ⟨t2, hst2 t2 a1, b1⟩
theorem J_callIN (X : Cx p s m args meth c own cc nL rt o) (hA : ∀ q, H0.size ≤ q → A q) {host : String} {y : MethodName} {cy : ByteArray} {nLy index : Nat} {f n mc ms b : Nat} {eb : va_E} {P : va_W → Prop}
    (hM : Cn l o A y cy nLy f n mc ms ((wq ++ L) ++ [(b, eb)]) [.ref b] P)
    (w1 : Cond.methodLinkNest own index y host ∈ NW) (w2 : Cond.instanceMethod y ∈ TT) (w4 : Cond.initialized y.cls ∈ TT) (w5 : Cond.code y cy nLy none ∈ TT) (hyn : y.name = "<init>")
    (hdy : y.cls ≠ "java/lang/invoke/MethodHandle" ∧ y.cls ≠ "java/lang/invoke/VarHandle" ∧ (parseMethodDescriptor y.desc).map (fun d => d.parameters.length) = some 0) (hR : f + 1 ≤ R.frames ∧ 8 + (nLy + 11) + n ≤ R.locals) (hcs : cells + mc ≤ R.cells ∧ slots + ms ≤ R.slots) (hst : (st.map fun v => v.category).sum ≤ 8)
    (hd : decode cc pc = .ok (.invokespecial index, 3)) (k : ∀ ws', P ws' → J p l e R s m args below meth c (cells + mc) (slots + ms) Z o (fun _ => ws') A H0 nL (pc + 3) lo st h) : J p l e R s m args below meth c cells slots Z o (kw wq (L ++ [(b, eb)])) A H0 nL pc lo (.ref b :: st) h := by
  have hts := X.2.2.2.2.1
  intro H locs ls hm hl T hT X0
  have hS := hm.2.1
  have hm1 : va_P o.2.1 vwCl ((wq ++ L) ++ [(b, eb)]) H := by rw [List.append_assoc]; exact hm.1
  have hm2 : va_D A ((wq ++ L) ++ [(b, eb)]) := by rw [List.append_assoc]; exact hm.2.2 h
  have hrun := va_runIN (p := p) (e := e) (below := below) (meth := meth) (H := H) (locs := locs) (cells := cells) (slots := slots) (g := F0 m pc ls (.ref b :: st)) (As := []) (rest := st) (b := b) (host := host) ⟨X.1, X.2.1, X.2.2.1, X.2.2.2.1, hts⟩ hM ⟨va_cnB 0 hts (goodTT w5) rfl rfl rfl (X.2.2.2.2.2.2.1 _ w1) (hts _ w4) hdy hR, hyn, hts _ w2⟩ ⟨wdn_blind, fun U hU hW => ⟨rfl, by rw [hU]; exact hm1, va_K.moved hW.alike X.2.2.2.2.2.1, nw_warm hW X.2.2.2.2.2.2.1, hm2, fun q hq => hA q (Nat.le_trans hS.1 (by rw [← hU]; exact hq))⟩⟩ rfl rfl hl.1 rfl (lv_room hst) hd hcs
  obtain ⟨v, st₀, t, T', Lq, h0, X', hL, e1, e2, ⟨⟨hv, ws', hPw, hP1, hD1⟩, hz, hk⟩, hst2⟩ := hrun T hT X0
  cases hv
  rw [h0] at hz hk
  obtain ⟨t2, a1, b1⟩ := k ws' hPw T'.heap (locs ++ Lq) ls ⟨by rw [e1]; exact hP1, ⟨Nat.le_trans hS.1 (by rw [e1]; exact hz), fun q h1 h2 => by rw [e1, hk q (Nat.lt_of_lt_of_le h1 hS.1) h2]; exact hS.2.1 q h1 h2, fun q hq => by
      rcases List.mem_append.mp hq with h | h
      · exact hS.2.2 q h
      · exact hL q h⟩, fun _ => hD1⟩ hl T' rfl X'
  exact ⟨t2, hst2 t2 a1, b1⟩
/-- a constructor's end -/
theorem J_nret (X : Cx p s m args meth c own cc nL none o) {P : va_W → Prop} (hP : P (emb h)) (hd : decode cc pc = .ok (.return_, 1)) : J p l e R s m args below meth c cells slots (MQ below (WdQn o A P) args s cells slots A) o emb A s.heap nL pc lo [] h :=
  fun H locs ls hm hl => W.vret X.1 X.2.1 X.2.2.2.2.2.2.2.1 (fun t ht _ => ⟨⟨rfl, emb h, hP, by rw [ht]; exact hm.1, hm.2.2 h⟩, hm.2.1.F ht⟩) hm.2.1.2.2 hd X.2.2.2.2.2.2.2.2
theorem Cn.of {y : MethodName} {f n mc ms : Nat} {ws : va_W} {av : List Value} {P : va_W → Prop} (own : String) (hown : y.cls = own) (hname : y.name = "<init>") (hy : plainName y.cls = true) (hn : (lg_sl av).length ≤ nL)
    (body : ∀ (p : Program) (e : Env) (s : State) (m : MethodId) (args : Array Value) (below : List Frame) (meth : Method) (c : Code), Cx p s m args meth c own cc nL none o → meth.name = "<init>" → (∀ q, s.heap.size ≤ q → A q) → J p l e (rmc f n mc ms) s m args below meth c 0 0 (MQ below (WdQn o A P) args s mc ms A) o (fun _ => ws) A s.heap nL 0 (lv_args 0 av) [] ((fun _ _ => 0), (fun _ _ => 0))) : Cn l o A y cc nL f n mc ms ws av P := by
  refine Met.ofW (cc := cc) (maxL := nL) (ret := none) hy rfl ?_
  intro p e s m args below meth c s₁ B hml hv
  obtain ⟨hav, hP, hK, hN, hD, hA⟩ := hv
  have hts : ∀ w ∈ TT, w.before args s = true := fun w hw => atoms_spec (ws := .code y cc nL none :: TT) B.pre w (List.mem_cons_of_mem _ hw)
  have hcl : s.vm.findClass own = some m.cls := by rw [← hown]; exact findClass_of_methodNamed B.named
  have hnm : meth.name = "<init>" := ((name_of_methodNamed B.named B.method).1).trans hname
  have K := body p e s m args below meth c ⟨B.exec, B.bytes, hml, hcl, hts, hK, hN, B.returns, B.notSynchronized⟩ hnm hA s.heap [] _ ⟨hP, va_S.rf, fun _ => hD⟩ (lv_entry av hn)
  rw [hav, lg_entry_eq]
  rw [hav] at K
  exact K
end CTOR
