theorem gw_oi : Cond.instanceMethod objectInit ∈ gw ∧ Cond.code objectInit ⟨#[0xb1]⟩ 1 none ∈ gw := ⟨(gw_t1 (List.mem_of_getElem? (i := 20) rfl) rfl), (gw_t1 (List.mem_of_getElem? (i := 21) rfl) rfl)⟩
/-! Constructors: the judgement gN over a world that is a plain list of cells; what is made is counted. -/
def gCn (v : gs_V) (me : gs_M) (p : Program) (s : State) (m : MethodId) (args : Array Value) (meth : Method) (c : Code) (A : Nat → Prop) : Prop :=
  p.tables.exec = Jvm.exec ∧ c.code = me.2.1 ∧ c.maxLocals = me.2.2.1 ∧ s.vm.findClass me.1.cls = some m.cls ∧ (∀ w ∈ gw, w.before args s = true) ∧ gs_K v s ∧ (∀ q, s.heap.size ≤ q → A q) ∧ meth.sig.returnType = none ∧ meth.locks = false ∧ meth.name = "<init>"
def gN (l : Launch) (v : gs_V) (me : gs_M) (R : Room) (mc ms : Nat) (Qf : gs_Q) (cells slots pc : Nat) (L : List (Nat × Value)) (st : List Value) (ws : va_W) : Prop :=
  ∀ (p : Program) (e : Env) (s : State) (m : MethodId) (args : Array Value) (below : List Frame) (meth : Method) (c : Code) (A : Nat → Prop), gCn v me p s m args meth c A →
  ∀ (ls : Array Slot) (H : Heap) (locs : List Loc), lv_has ls me.2.2.1 L → va_P v.1 vwCl ws H → va_D A ws → va_S A s.heap H locs →
  W p l e R s m args below meth c H locs cells slots (MQ below (Qf A) args s mc ms A) (F0 m pc ls st)
def qN (v : gs_V) (Wf : (Nat → Nat) → va_W) : gs_Q := fun A => va_Qv (fun _ : Nat → Nat => True) (fun u t => va_P v.1 vwCl (Wf u) t.heap ∧ va_D A (Wf u)) A
def gMn (l : Launch) (v : gs_V) (me : gs_M) (R : Room) (mc ms : Nat) (av : List Value) (ws0 : va_W) (Wf : (Nat → Nat) → va_W) : Prop :=
  ∀ sz : Nat, Met l me.1 (gs_h me :: gw) R (va_Pc av (fun U => U.heap.size = sz ∧ va_P v.1 vwCl ws0 U.heap ∧ gs_K v U ∧ va_D (fun _ => True) ws0)) (qN v Wf (va_A ws0 sz)) mc ms (va_A ws0 sz)
section GN
variable {l : Launch} {v : gs_V} {me : gs_M} {R : Room} {mc ms : Nat} {Qf : gs_Q} {cells slots pc : Nat} {L : List (Nat × Value)} {st rest : List Value} {ws ws' : va_W} {Wf : (Nat → Nat) → va_W}
theorem gMn_of {av : List Value} (hy : plainFor me.1 = true) (hi : me.1.name = "<init>") (hr : me.2.2.2 = none) (hl : (lg_sl av).length ≤ me.2.2.1) (h : gN l v me R mc ms (qN v Wf) 0 0 0 (lv_args 0 av) [] ws) : gMn l v me R mc ms av ws Wf := by
  intro sz
  refine va_MetF (cc := me.2.1) (maxL := me.2.2.1) (ret := me.2.2.2) hy rfl ?_
  intro p e s m args below meth c s₁ B hml hv
  obtain ⟨rfl, hsz, hP, hK, hD0⟩ := hv
  subst hsz
  have hts := atoms_spec (ws := gs_h me :: gw) B.pre
  have hin : meth.name = me.1.name := (name_of_methodNamed B.named B.method).1
  have hret := B.returns
  rw [hr] at hret
  rw [lg_entry_eq]
  exact h p e s m _ below meth c (va_A ws s.heap.size) ⟨B.exec, B.bytes, hml, findClass_of_methodNamed B.named, fun w hw => hts w (List.mem_cons_of_mem _ hw), hK, fun q hq => Or.inr hq, hret, B.notSynchronized, hin.trans hi⟩ _ s.heap [] (lv_entry av hl) hP hD0.self va_S.rf
theorem n_aload {z : Fin 4} {i x : Nat} (d : decode me.2.1 pc = .ok (.aload_n z, 1)) (q : Nat) (hi : (z : Nat) = i) (hq : L[q]? = some (i, .ref x)) (k : gN l v me R mc ms Qf cells slots (pc + 1) L (.ref x :: rest) ws) : gN l v me R mc ms Qf cells slots pc L rest ws :=
  fun p e s m args below meth c A hC ls H locs hl hP hD hS => lv_aload_n hC.1 hC.2.1 d hi (lv_at hl q hq) (k p e s m args below meth c A hC ls H locs hl hP hD hS)
theorem n_iconst {z : Int} {x : Int32} (d : decode me.2.1 pc = .ok (.iconst z, 1)) (hv : Int32.ofInt z = x) (k : gN l v me R mc ms Qf cells slots (pc + 1) L (.int x :: rest) ws) : gN l v me R mc ms Qf cells slots pc L rest ws :=
  fun p e s m args below meth c A hC ls H locs hl hP hD hS => lv_iconst hC.1 hC.2.1 d hv (k p e s m args below meth c A hC ls H locs hl hP hD hS)
theorem n_bipush {z : Int} {x : Int32} (d : decode me.2.1 pc = .ok (.bipush z, 2)) (hv : (Int8.ofInt z).toInt32 = x) (k : gN l v me R mc ms Qf cells slots (pc + 2) L (.int x :: rest) ws) : gN l v me R mc ms Qf cells slots pc L rest ws :=
  fun p e s m args below meth c A hC ls H locs hl hP hD hS => lv_bipush hC.1 hC.2.1 d hv (k p e s m args below meth c A hC ls H locs hl hP hD hS)
theorem n_sipush {z : Int} {x : Int32} (d : decode me.2.1 pc = .ok (.sipush z, 3)) (hv : (Int16.ofInt z).toInt32 = x) (k : gN l v me R mc ms Qf cells slots (pc + 3) L (.int x :: rest) ws) : gN l v me R mc ms Qf cells slots pc L rest ws :=
  fun p e s m args below meth c A hC ls H locs hl hP hD hS => lv_sipush hC.1 hC.2.1 d hv (k p e s m args below meth c A hC ls H locs hl hP hD hS)
theorem n_lconst {z : Fin 2} {x : Int64} (d : decode me.2.1 pc = .ok (.lconst z, 1)) (hv : Int64.ofNat (z : Nat) = x) (k : gN l v me R mc ms Qf cells slots (pc + 1) L (.long x :: rest) ws) : gN l v me R mc ms Qf cells slots pc L rest ws :=
  fun p e s m args below meth c A hC ls H locs hl hP hD hS => lv_lconst hC.1 hC.2.1 d hv (k p e s m args below meth c A hC ls H locs hl hP hD hS)
theorem n_dup {a : Value} (d : decode me.2.1 pc = .ok (.dup, 1)) (ha : a.category = 1) (k : gN l v me R mc ms Qf cells slots (pc + 1) L (a :: a :: rest) ws) : gN l v me R mc ms Qf cells slots pc L (a :: rest) ws :=
  fun p e s m args below meth c A hC ls H locs hl hP hD hS => lv_dup hC.1 hC.2.1 d ha (k p e s m args below meth c A hC ls H locs hl hP hD hS)
theorem n_obj {q index : Nat} (d : decode me.2.1 pc = .ok (.invokespecial index, 3)) (hL : Cond.methodLink me.1.cls index objectInit ∈ gw) (hR1 : 1 ≤ R.frames) (hR2 : 12 ≤ R.locals) (k : gN l v me R mc ms Qf cells slots (pc + 3) L [] ws) : gN l v me R mc ms Qf cells slots pc L [.ref q] ws :=
  fun p e s m args below meth c A hC ls H locs hl hP hD hS => W.objInit hC.1 hC.2.1 hC.2.2.2.1 (hC.2.2.2.2.1 _ hL) (hC.2.2.2.2.1 _ gw_oi.1) (hC.2.2.2.2.1 _ gw_oi.2) rfl (by rw [hC.2.2.1]; exact hl.1) rfl d hR1 hR2 (k p e s m args below meth c A hC ls H locs hl hP hD hS)
theorem n_newa {atype : ArrayType} {t N' : Nat} {n : Int32} {a0 : vp_A} (d : decode me.2.1 pc = .ok (.newarray atype, 2)) (hw : Cond.arrayClass (newarray.typeOf atype) ∈ gw) (ht : (gs_t v)[t]? = some (v.2.1 t, newarray.typeOf atype)) (hpr : ∀ (s : State) (cA : ClassId), va_RA s cA (newarray.typeOf atype) → s.vm.findClass ("[" ++ (newarray.typeOf atype).toString) = some cA) (ha : ∀ cA : ClassId, vp_cell cA a0 = arrV cA N' (fun _ => defaultValue (newarray.typeOf atype))) (hn : ¬ n < 0) (hN : n.toNatClampNeg = N') (hbytes : N' * componentBytes (newarray.typeOf atype) ≤ 536870912) (hcells : cells + 1 ≤ R.cells) (hslots : slots + N' ≤ R.slots)
    (k : ∀ q : Nat, gN l v me R mc ms Qf (cells + 1) (slots + N') (pc + 2) L (.ref q :: rest) (ws ++ [(q, .inl (v.2.1 t, a0))])) : gN l v me R mc ms Qf cells slots pc L (.int n :: rest) ws :=
  fun p e s m args below meth c A hC ls H locs hl hP hD hS => va_newa hC.1 hC.2.1 (hC.2.2.2.2.1 _ hw) rfl hC.2.2.2.2.2.1.1 hP hD hS hC.2.2.2.2.2.2.1 ha hn hN hbytes hcells hslots d (fun q cA H1 hK' hP' hD' hS' => by
    have e1 := (hK'.2 5 (cA, _) rfl).2
    have e2 := (hC.2.2.2.2.2.1.1.2 t _ ht).2
    have e3 : cA = v.2.1 t := by
      have a := hpr s cA e1
      have b := hpr s (v.2.1 t) e2
      rw [a] at b
      exact Option.some.inj b
    subst e3
    exact k q p e s m args below meth c A hC ls H1 locs hl hP' hD' hS')
-- a field that is written in a constructor: final or not
def gFi (own : String) (index ci j : Nat) (ty : FieldType) : Prop := ∃ (C : String) (T : u_T) (M : Nat) (ty0 : Nat → FieldType), vwCl[ci]? = some (C, T, M) ∧ j < M ∧ (∀ w ∈ u_ws C T M, w ∈ gw) ∧ Cond.fieldLink own index C (T j).2.1 (T j).2.2.1 ∈ gw ∧ (T j).1 = C ∧ (∀ k, k < M → parseFieldDescriptor (T k).2.2.1 = some (ty0 k)) ∧ (∀ a, a < M → ∀ b, b < M → a ≠ b → (T a).2.1 ≠ (T b).2.1) ∧ C = own ∧ parseFieldDescriptor (T j).2.2.1 = some ty
theorem n_put {q ci j index q0 : Nat} {fs : List Value} {ty : FieldType} {x : Value} (d : decode me.2.1 pc = .ok (.putfield index, 3)) (hF : gFi me.1.cls index ci j ty) (he : ws[q0]? = some (q, .inr (ci, fs))) (hn : narrow ty x = x) (hf : fits ty x = true) (hl : j < fs.length) (hw : ws.set q0 (q, .inr (ci, fs.set j x)) = ws') (k : gN l v me R mc ms Qf cells slots (pc + 3) L rest ws') : gN l v me R mc ms Qf cells slots pc L (x :: .ref q :: rest) ws := by
  subst hw
  intro p e s m args below meth c A hC ls H locs hll hP hD hS
  obtain ⟨C, T, M, ty0, h1, h2, h3, h4, h5, h6, h7, h8, h9⟩ := hF
  by_cases hfin : (T j).2.2.2 = true
  · exact va_putF (ref := C) hC.1 hC.2.1 hC.2.2.2.2.1 h3 ty0 h6 h7 hC.2.2.2.1 hC.2.2.2.2.2.1.1 hP hD hS q0 he h1 j h2 (hC.2.2.2.2.1 _ h4) (fun x hx => by rw [h5] at hx; exact hx) hfin hC.2.2.2.2.2.2.2.2.2 (h5.trans h8) h9 hn hf hl d (fun H locs hP' hD' hS => k p e s m args below meth c A hC ls H locs hll hP' hD' hS)
  · have hfin' : (T j).2.2.2 = false := by simpa using hfin
    exact va_put (ref := C) hC.1 hC.2.1 hC.2.2.2.2.1 h3 ty0 h6 h7 hC.2.2.2.1 hC.2.2.2.2.2.1.1 hP hD hS q0 he h1 j h2 (hC.2.2.2.2.1 _ h4) (fun x hx => by rw [h5] at hx; exact hx) hfin' h9 hn hf hl d (fun H locs hP' hD' hS => k p e s m args below meth c A hC ls H locs hll hP' hD' hS)
theorem n_get {q ci j index q0 : Nat} {fs : List Value} {x : Value} (d : decode me.2.1 pc = .ok (.getfield index, 3)) (hF : gF me.1.cls index ci j) (he : ws[q0]? = some (q, .inr (ci, fs))) (hx : fs[j]? = some x) (k : gN l v me R mc ms Qf cells slots (pc + 3) L (x :: rest) ws) : gN l v me R mc ms Qf cells slots pc L (.ref q :: rest) ws := by
  intro p e s m args below meth c A hC ls H locs hll hP hD hS
  obtain ⟨C, T, M, h1, h2, h3, h4, h5⟩ := hF
  exact va_get (ref := C) hC.1 hC.2.1 hC.2.2.2.2.1 h3 hC.2.2.2.1 hC.2.2.2.2.2.1.1 hP q0 he h1 j h2 (hC.2.2.2.2.1 _ h4) (fun x hx => by rw [h5] at hx; exact hx) hx d (k p e s m args below meth c A hC ls H locs hll hP hD hS)
def gNw (own : String) (index ci M : Nat) (ty0 : Nat → FieldType) : Prop := ∃ (C : String) (T : u_T), vwCl[ci]? = some (C, T, M) ∧ (∀ w ∈ u_ws C T M, w ∈ gw) ∧ (∀ k, k < M → parseFieldDescriptor (T k).2.2.1 = some (ty0 k)) ∧ Cond.classLink own index C ∈ gw ∧ Cond.instantiable C M ∈ gw ∧ Cond.initialized C ∈ gw
theorem n_new {ci index M : Nat} {fs : List Value} {ty0 : Nat → FieldType} (d : decode me.2.1 pc = .ok (.new index, 3)) (hW : gNw me.1.cls index ci M ty0) (hfs : ∀ j, j < M → defaultValue (ty0 j) = vp_V fs j) (hcells : cells + 1 ≤ R.cells) (hslots : slots + M ≤ R.slots) (k : ∀ q : Nat, gN l v me R mc ms Qf (cells + 1) (slots + M) (pc + 3) L (.ref q :: rest) (ws ++ [(q, .inr (ci, fs))])) : gN l v me R mc ms Qf cells slots pc L rest ws := by
  intro p e s m args below meth c A hC ls H locs hll hP hD hS
  obtain ⟨C, T, h1, h2, h3, h4, h5, h6⟩ := hW
  exact va_new (c0 := c) hC.1 hC.2.1 hC.2.2.2.2.1 h2 ty0 h3 hC.2.2.2.1 (hC.2.2.2.2.1 _ h4) (hC.2.2.2.2.1 _ h5) (hC.2.2.2.2.1 _ h6) hC.2.2.2.2.2.1.1 hP hD hS hC.2.2.2.2.2.2.1 h1 hfs hcells hslots d (fun q H1 hP' hD' hS' => k q p e s m args below meth c A hC ls H1 locs hll hP' hD' hS')
theorem n_ret (u : Nat → Nat) (d : decode me.2.1 pc = .ok (.return_, 1)) (hw : Wf u = ws) : gN l v me R cells slots (qN v Wf) cells slots pc L [] ws := by
  subst hw
  exact fun p e s m args below meth c A hC ls H locs hl hP hD hS => W.vret hC.1 hC.2.1 hC.2.2.2.2.2.2.2.1 (fun t ht hW => ⟨⟨u, rfl, trivial, by show va_P _ _ _ t.heap ∧ _; rw [ht]; exact ⟨hP, hD⟩⟩, hS.F ht⟩) hS.2.2 d hC.2.2.2.2.2.2.2.2.1
theorem n_sub (is : List Nat) (hn : va_nd is = true) (hs : is.map (fun i => ws[i]?) = ws'.map some) (k : gN l v me R mc ms Qf cells slots pc L st ws') : gN l v me R mc ms Qf cells slots pc L st ws := by
  intro p e s m args below meth c A hC ls H locs hl hP hD hS
  have hfm : is.filterMap (fun i => ws[i]?) = ws' := by
    have h1 : is.filterMap (fun i => ws[i]?) = (is.map (fun i => ws[i]?)).filterMap id := by rw [List.filterMap_map]; rfl
    rw [h1, hs, List.filterMap_map]
    simp
  exact k p e s m args below meth c A hC ls H locs hl (hP.sub is hfm) (hD.sub is hn hs) hS
theorem n_tie {q0 q : Nat} {cA : ClassId} {f g : Nat → Option Nat} (he : ws[q0]? = some (q, .inl (cA, 4, .inr (.inr (.inr (.inr f)))))) (hfg : ∀ i, i < 4 → f i = g i) (hw : ws.set q0 (q, .inl (cA, 4, .inr (.inr (.inr (.inr g))))) = ws') (k : gN l v me R mc ms Qf cells slots pc L st ws') : gN l v me R mc ms Qf cells slots pc L st ws := by
  subst hw
  intro p e s m args below meth c A hC ls H locs hl hP hD hS
  have hc : vp_cell cA (4, .inr (.inr (.inr (.inr f)))) = vp_cell cA (4, .inr (.inr (.inr (.inr g)))) := by
    rw [vp_cell_q, vp_cell_q]
    unfold arrV
    congr 2
    funext j
    exact congrArg va_rf (hfg j.val j.isLt)
  have h1 : H[q]? = some (vp_cell cA (4, .inr (.inr (.inr (.inr f))))) := hP q0 _ he
  rw [hc] at h1
  exact k p e s m args below meth c A hC ls H locs hl (hP.set hD he h1 (fun _ _ => rfl)) (hD.set he) hS
theorem n_blind {av : List Value} {ws0 : va_W} {sz : Nat} : FrameBlind (va_Pc av (fun U => U.heap.size = sz ∧ va_P v.1 vwCl ws0 U.heap ∧ gs_K v U ∧ va_D (fun _ => True) ws0)) := fun a U g mk q => by
  obtain ⟨q0, q1, qP, qK, qD⟩ := q
  exact ⟨q0, q1, qP, gs_K_same rfl qK, qD⟩
def gRm (R R' : Room) (mc' ms' maxL : Nat) : Prop := R'.cells = mc' ∧ R'.slots = ms' ∧ R'.frames + 1 ≤ R.frames ∧ 8 + (maxL + 11) + R'.locals ≤ R.locals
theorem n_callI {me' : gs_M} {index a q mc' ms' : Nat} {av : List Value} {R' : Room} {ws0 wr : va_W} {Wf' : (Nat → Nat) → va_W} (isC isR : List Nat) (d : decode me.2.1 pc = .ok (.invokespecial index, 3)) (hY : gY me' a) (hL : Cond.methodLink me.1.cls index me'.1 ∈ gw ∨ ∃ host, (me.1.cls, index, me'.1, host) ∈ gw_n) (hi : me'.1.name = "<init>") (hr : me'.2.2.2 = none) (hI : Cond.instanceMethod me'.1 ∈ gw) (hR : gRm R R' mc' ms' me'.2.2.1) (ha : av.length = a) (h8 : (rest.map fun x => x.category).sum ≤ 8) (hst : st = av.reverse ++ .ref q :: rest) (hc : cells + mc' ≤ R.cells ∧ slots + ms' ≤ R.slots)
    (hC0 : isC.map (fun i => ws[i]?) = ws0.map some) (hR0 : isR.map (fun i => ws[i]?) = wr.map some) (hn : va_nd isR = true) (hnc : va_nd isC = true) (hdis : ∀ i ∈ isR, i ∉ isC) (hM : gMn l v me' R' mc' ms' (.ref q :: av) ws0 Wf') (k : ∀ u : Nat → Nat, gN l v me R mc ms Qf (cells + mc') (slots + ms') (pc + 3) L rest (wr ++ Wf' u)) : gN l v me R mc ms Qf cells slots pc L st ws := by
  intro p e s m args below meth c A hC ls H locs hl hP hD hS
  have hts := hC.2.2.2.2.1
  have hFc : ∀ x, va_A ws0 H.size x → A x := va_free hD hS hC.2.2.2.2.2.2.1 isC hC0
  have hfm : isC.filterMap (fun i => ws[i]?) = ws0 := by
    have h1 : isC.filterMap (fun i => ws[i]?) = (isC.map (fun i => ws[i]?)).filterMap id := by rw [List.filterMap_map]; rfl
    rw [h1, hC0, List.filterMap_map]
    simp
  have hPc := hP.sub (ws' := ws0) isC hfm
  have hDc := hD.sub (ws' := ws0) isC hnc hC0
  have hpre : ∀ U : State, U.heap = H → s.WarmedH U.vm → va_Pc (.ref q :: av) (fun U => U.heap.size = H.size ∧ va_P v.1 vwCl ws0 U.heap ∧ gs_K v U ∧ va_D (fun _ => True) ws0) (Value.ref q :: av).toArray U := fun U hU hW => ⟨rfl, by rw [hU], by rw [hU]; exact hPc, gs_K_warm hW hC.2.2.2.2.2.1, hDc.weaken (fun _ _ _ _ => trivial)⟩
  have fin : ∀ (u : Nat → Nat) (t : State) (H1 : Heap) (locs1 : List Loc), t.heap = H1 → s.vm.Alike t.vm → True → (va_P v.1 vwCl (Wf' u) t.heap ∧ va_D (va_A ws0 H.size) (Wf' u)) → H.size ≤ H1.size → (∀ x : Nat, x < H.size → ¬ va_A ws0 H.size x → H1[x]? = H[x]?) → va_S A s.heap H1 locs1 → W p l e R s m args below meth c H1 locs1 (cells + mc') (slots + ms') (MQ below (Qf A) args s mc ms A) (F0 m (pc + 3) ls rest) := by
    intro u t H1 locs1 ht hvm _ hB hz1 hk1 hS1
    rw [ht] at hB
    obtain ⟨hP2, hD2⟩ := va_join (wr := wr) (w1 := Wf' u) hP hD isC isR hC0 hR0 hn hdis hk1 hFc hB.1 hB.2
    exact k u p e s m args below meth c A hC ls H1 locs1 hl hP2 hD2 hS1
  rcases hL with hL | ⟨host, hL⟩
  · have cb : CallB R s args me.1.cls index me'.1 me'.2.1 me'.2.2.1 none (gs_h me' :: gw) R' mc' ms' a := callB_of a hts (g_good hY.1) (by rw [gs_h, hr]) hR.1 hR.2.1 (hts _ hY.2.1) (hts _ hL) hY.2.2.1 ⟨hR.2.2.1, hR.2.2.2⟩
    exact va_callv (va_runI (As := av) (rest := rest) (b := q) ⟨hC.1, hC.2.1, hC.2.2.1, hC.2.2.2.1, hts⟩ (hM H.size) ⟨cb, hi, hts _ hI⟩ ⟨n_blind, hpre⟩ rfl ha hl.1 hst (lv_room h8) d hc) hS (fun x _ h => hFc x h) hFc fin
  · have cb : va_CN R s args me.1.cls index me'.1 host me'.2.1 me'.2.2.1 none (gs_h me' :: gw) R' mc' ms' a := va_cnB a hts (g_good hY.1) (by rw [gs_h, hr]) hR.1 hR.2.1 (hC.2.2.2.2.2.1.2.1 _ hL) (hts _ hY.2.1) hY.2.2.1 ⟨hR.2.2.1, hR.2.2.2⟩
    exact va_callv (va_runIN (As := av) (rest := rest) (b := q) ⟨hC.1, hC.2.1, hC.2.2.1, hC.2.2.2.1, hts⟩ (hM H.size) ⟨cb, hi, hts _ hI⟩ ⟨n_blind, hpre⟩ rfl ha hl.1 hst (lv_room h8) d hc) hS (fun x _ h => hFc x h) hFc fin
/-- new long[4][4]: an array of four rows, and the rows -/
theorem n_mna {index : Nat} {n k : Int32} (hn : n = 4) (hk : k = 4) (d : decode me.2.1 pc = .ok (.multianewarray index 2, 4)) (hL : Cond.classLink me.1.cls index "[[J" ∈ gw) (hw : Cond.arrayClass .long ∈ gw) (hcells : cells + 5 ≤ R.cells) (hslots : slots + 20 ≤ R.slots)
    (kk : ∀ q : Nat, gN l v me R mc ms Qf (cells + 5) (slots + 20) (pc + 4) L (.ref q :: rest) (ws ++ [(q, .inl (v.2.1 4, 4, .inr (.inr (.inr (.inr (fun i => some (q + 1 + i))))))), (q + 1, .inl (v.2.1 1, 4, .inr (.inl (fun _ => 0)))), (q + 2, .inl (v.2.1 1, 4, .inr (.inl (fun _ => 0)))), (q + 3, .inl (v.2.1 1, 4, .inr (.inl (fun _ => 0)))), (q + 4, .inl (v.2.1 1, 4, .inr (.inl (fun _ => 0))))])) : gN l v me R mc ms Qf cells slots pc L (.int k :: .int n :: rest) ws := by
  subst hn
  subst hk
  intro p e s m args below meth c A hC ls H locs hl hP hD hS
  intro T hT X
  have hb := hC.2.1
  obtain ⟨vm₁, cA, comp, -, fA, fC, -, -, X', step⟩ := X.multianewarray2F hC.1 hC.2.2.2.1 (ty := .long) (hC.2.2.2.2.1 _ hL) hC.2.2.2.2.2.1.2.2 (hC.2.2.2.2.1 _ hw) (g := F0 m pc ls (.int 4 :: .int 4 :: rest)) rfl (by rw [hb]; exact d) rfl (by decide) (by decide) (by decide) (by decide) (by decide) rfl rfl (show cells + (1 + (4 : Int32).toNatClampNeg) ≤ R.cells from hcells) (show slots + ((4 : Int32).toNatClampNeg + (4 : Int32).toNatClampNeg * (4 : Int32).toNatClampNeg) ≤ R.slots from hslots)
  have e4 : (4 : Int32).toNatClampNeg = 4 := rfl
  have ecA : cA = v.2.1 4 := by
    have b : s.vm.findClass ("[" ++ (FieldType.array .long).toString) = some (v.2.1 4) := (hC.2.2.2.2.2.1.1.2 4 _ rfl).2
    rw [fA] at b
    exact Option.some.inj b
  have ecp : comp = v.2.1 1 := by
    have b : s.vm.findClass ("[" ++ FieldType.long.toString) = some (v.2.1 1) := (hC.2.2.2.2.2.1.1.2 1 _ rfl).2
    have b2 : s.vm.findClass ("[" ++ FieldType.long.toString) = some comp := fC
    rw [b2] at b
    exact Option.some.inj b
  subst ecA
  subst ecp
  rw [e4] at X' step
  generalize hF : Jvm.Free.Multi.fill (T.setVm vm₁) (v.2.1 4) (v.2.1 1) 4 4 (defaultValue .long) 4 = F at X' step
  have hTh : (T.setVm vm₁).heap = H := hT
  obtain ⟨f1, f2, -, -⟩ := Jvm.Free.Multi.fill_facts (T.setVm vm₁) (v.2.1 4) (v.2.1 1) 4 4 (defaultValue .long) 4
  rw [hF, hTh] at f1 f2
  have hold : ∀ x : Nat, x < H.size → F.heap[x]? = H[x]? := fun x hx => by
    have := Jvm.Free.Multi.fill_old (T.setVm vm₁) (v.2.1 4) (v.2.1 1) 4 4 (defaultValue .long) (a := x) (by rw [hTh]; exact hx) 4
    rw [hF, hTh] at this
    exact this
  have hrow : ∀ j : Nat, j < 4 → F.heap[H.size + 1 + j]? = some (vp_cell (v.2.1 1) (4, .inr (.inl (fun _ => 0)))) := fun j hj => by
    have := Jvm.Free.Multi.fill_inner (T.setVm vm₁) (v.2.1 4) (v.2.1 1) 4 4 (defaultValue .long) 4 j hj
    rw [hF, hTh] at this
    rw [this, vp_cell_l, ← arrV_new]
    rfl
  have hout : F.heap[H.size]? = some (vp_cell (v.2.1 4) (4, .inr (.inr (.inr (.inr (fun i => some (H.size + 1 + i))))))) := by
    rw [f2, vp_cell_q]
    congr 1
  have hw5 : ∀ (i : Nat) (x : Nat × va_E), ([(H.size, .inl (v.2.1 4, 4, .inr (.inr (.inr (.inr (fun i => some (H.size + 1 + i))))))), (H.size + 1, .inl (v.2.1 1, 4, .inr (.inl (fun _ => 0)))), (H.size + 2, .inl (v.2.1 1, 4, .inr (.inl (fun _ => 0)))), (H.size + 3, .inl (v.2.1 1, 4, .inr (.inl (fun _ => 0)))), (H.size + 4, .inl (v.2.1 1, 4, .inr (.inl (fun _ => 0))))] : va_W)[i]? = some x → x.1 = H.size + i ∧ va_at v.1 vwCl x F.heap := by
    intro i x hx
    have hi : i < 5 := (List.getElem?_eq_some_iff.mp hx).1
    rcases (show i = 0 ∨ i = 1 ∨ i = 2 ∨ i = 3 ∨ i = 4 by omega) with h | h | h | h | h <;> subst h <;> cases hx
    · exact ⟨rfl, hout⟩
    · exact ⟨rfl, hrow 0 (by decide)⟩
    · exact ⟨rfl, hrow 1 (by decide)⟩
    · exact ⟨rfl, hrow 2 (by decide)⟩
    · exact ⟨rfl, hrow 3 (by decide)⟩
  have hP2 := (hP.kept (H1 := F.heap) (fun k9 x hx => hold x.1 ((hP k9 x hx).lt))).app (fun i x hx => (hw5 i x hx).2)
  have hD2 : va_D A (ws ++ _) := hD.app (w2 := [(H.size, .inl (v.2.1 4, 4, .inr (.inr (.inr (.inr (fun i => some (H.size + 1 + i))))))), (H.size + 1, .inl (v.2.1 1, 4, .inr (.inl (fun _ => 0)))), (H.size + 2, .inl (v.2.1 1, 4, .inr (.inl (fun _ => 0)))), (H.size + 3, .inl (v.2.1 1, 4, .inr (.inl (fun _ => 0)))), (H.size + 4, .inl (v.2.1 1, 4, .inr (.inl (fun _ => 0))))])
    ⟨fun i j x y hi hj hxy => by have a := (hw5 i x hi).1; have b := (hw5 j y hj).1; omega, fun i x hx => by have a := (hw5 i x hx).1; have b := hS.1; exact hC.2.2.2.2.2.2.1 _ (by omega)⟩
    (fun i j x y hi hj => by have a := (hP i x hi).lt; have b := (hw5 j y hj).1; omega)
  have hS2 : va_S A s.heap F.heap locs := ⟨by rw [f1]; have := hS.1; omega, fun x h1 h2 => (hold x (Nat.lt_of_lt_of_le h1 hS.1)).trans (hS.2.1 x h1 h2), hS.2.2⟩
  obtain ⟨t, a1, b1⟩ := kk H.size p e s m args below meth c A hC ls F.heap locs hl hP2 hD2 hS2 F rfl X'
  refine ⟨t, step t ?_, b1⟩
  have e5 : T.heap.size = H.size := by rw [hT]
  rw [e5]
  exact a1
end GN
