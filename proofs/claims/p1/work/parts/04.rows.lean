theorem g_cmp_eq {x y : Int64} : lg_cmp x y = 0 ↔ x = y := by
  unfold lg_cmp
  split
  · rename_i h
    exact ⟨fun z => absurd z (by decide), fun z => absurd h (by rw [z]; exact Int64.lt_irrefl)⟩
  · split
    · rename_i h
      exact ⟨fun _ => h, fun _ => rfl⟩
    · rename_i h
      exact ⟨fun z => absurd z (by decide), fun z => absurd z h⟩
theorem g_cmp_tri (x y : Int64) : (x < y ∧ lg_cmp x y = -1) ∨ (x = y ∧ lg_cmp x y = 0) ∨ (y < x ∧ lg_cmp x y = 1) := by
  by_cases h1 : y < x
  · exact Or.inr (Or.inr ⟨h1, by simp [lg_cmp, h1]⟩)
  · by_cases h2 : x = y
    · exact Or.inr (Or.inl ⟨h2, by subst h2; simp [lg_cmp]⟩)
    · refine Or.inl ⟨?_, by simp [lg_cmp, h1, h2]⟩
      rw [Int64.lt_iff_toInt_lt] at h1 ⊢
      have h3 : ¬ x.toInt = y.toInt := fun q => h2 (Int64.toInt_inj.mp q)
      omega
theorem g_cmp_lt {x y : Int64} : lg_cmp x y < 0 ↔ x < y := by
  rcases g_cmp_tri x y with ⟨h, e⟩ | ⟨h, e⟩ | ⟨h, e⟩ <;> rw [e] <;> rw [Int64.lt_iff_toInt_lt] at * <;> (try subst h) <;> (try simp) <;> (try decide) <;> omega
theorem g_cmp_ge {x y : Int64} : 0 ≤ lg_cmp x y ↔ y ≤ x := by
  rcases g_cmp_tri x y with ⟨h, e⟩ | ⟨h, e⟩ | ⟨h, e⟩ <;> rw [e] <;> (try subst h) <;> simp [Int64.le_iff_toInt_le, Int64.lt_iff_toInt_lt] at * <;> (try decide) <;> omega
theorem g_cmp_gt {x y : Int64} : 0 < lg_cmp x y ↔ y < x := by
  rcases g_cmp_tri x y with ⟨h, e⟩ | ⟨h, e⟩ | ⟨h, e⟩ <;> rw [e] <;> (try subst h) <;> simp [Int64.le_iff_toInt_le, Int64.lt_iff_toInt_lt] at * <;> (try decide) <;> omega
theorem g_cmp_le {x y : Int64} : lg_cmp x y ≤ 0 ↔ x ≤ y := by
  rcases g_cmp_tri x y with ⟨h, e⟩ | ⟨h, e⟩ | ⟨h, e⟩ <;> rw [e] <;> (try subst h) <;> simp [Int64.le_iff_toInt_le, Int64.lt_iff_toInt_lt] at * <;> (try decide) <;> omega
theorem g_lit {k len : Nat} (h : k < len) (hl : len < 2 ^ 31) : vp_in (Int32.ofNat k) len := vp_in_nI h hl
/-! The judgement gG: at this frame, with this world, the method comes to its end. gM: the contract of a call. -/
def gr_r (n : Nat) : Room := { frames := n, cells := 0, slots := 0, locals := 40 * n }
theorem gs_over_moved {u U : State} (hvm : u.vm.Alike U.vm) (h : (Cond.arrayOver (.array .long)).before #[] u = true) : (Cond.arrayOver (.array .long)).before #[] U = true := by
  obtain ⟨comp, c, k, h1, h2, h3, h4, h5⟩ := arrayOverA_spec h
  obtain ⟨k', hk', he⟩ := hvm.2.2 _ _ h3
  have hkind : k'.kind = .array comp (.array .long) := by rw [he]; exact h4
  have f1 : U.vm.findClass (FieldType.array .long).toString = some comp := by rw [hvm.findClass]; exact h1
  have f2 : U.vm.findClass ("[" ++ (FieldType.array .long).toString) = some c := by rw [hvm.findClass]; exact h5
  have hi : (U.vm.classes.findIdx? fun x => match x.kind with | .array component _ => component == comp | _ => false) = some c := by
    rw [hvm.findIdx?_eq _ (fun _ => rfl)]; exact h2
  unfold Cond.before Cond.holds
  simp only [Cond.value]
  rw [f1, Option.bind_some]
  refine (congrArg (fun o : Option Nat => (o.bind (fun c => (U.vm.classes[c]?).map fun (k : Class) => match k.kind with | .array _ ty => decide (ty = FieldType.array .long) && decide (U.vm.findClass ("[" ++ (FieldType.array .long).toString) = some c) | _ => false) == some true)) hi).trans ?_
  simp [hk', hkind, f2]
def gs_K (v : gs_V) (U : State) : Prop := va_K v.1 vwCl (gs_t v) U ∧ (∀ q ∈ gw_n, va_Nw (.methodLinkNest q.1 q.2.1 q.2.2.1 q.2.2.2) U) ∧ (Cond.arrayOver (.array .long)).before #[] U = true
theorem gs_K_warm {v : gs_V} {s U : State} (hW : s.WarmedH U.vm) (h : gs_K v s) : gs_K v U := ⟨va_K.moved hW.alike h.1, fun q hq => va_Nw.warmM hW (h.2.1 q hq), gs_over_moved hW.alike h.2.2⟩
theorem gs_K_same {v : gs_V} {s U : State} (hW : s.vm = U.vm) (h : gs_K v s) : gs_K v U := ⟨va_K.moved (by rw [hW]; exact Vm.Alike.refl U.vm) h.1, fun q hq => va_Nw.same rfl hW (h.2.1 q hq), gs_over_moved (by rw [hW]; exact Vm.Alike.refl U.vm) h.2.2⟩
def gs_P (v : gs_V) (ly : gs_L) (N : Nat) (σ : gs_S) (sz : Nat) (U : State) : Prop := U.heap.size = sz ∧ va_P v.1 vwCl (gs_w v ly N σ) U.heap ∧ gs_K v U ∧ va_D (fun _ => True) (gs_w v ly N σ)
abbrev gs_Q : Type := (Nat → Prop) → Array Value → State → Outcome → State → Prop
def qI (v : gs_V) (ly : gs_L) (N : Nat) (post : Int32 → gs_S → Prop) : gs_Q := fun A => va_Qi post (fun σ t => va_P v.1 vwCl (gs_w v ly N σ) t.heap) A
def qL (v : gs_V) (ly : gs_L) (N : Nat) (post : Int64 → gs_S → Prop) : gs_Q := fun A => va_Ql post (fun σ t => va_P v.1 vwCl (gs_w v ly N σ) t.heap) A
def qV (v : gs_V) (ly : gs_L) (N : Nat) (post : gs_S → Prop) : gs_Q := fun A => va_Qv post (fun σ t => va_P v.1 vwCl (gs_w v ly N σ) t.heap) A
abbrev gs_h (me : gs_M) : Cond := Cond.code me.1 me.2.1 me.2.2.1 me.2.2.2
def gM (l : Launch) (v : gs_V) (ly : gs_L) (N : Nat) (me : gs_M) (n : Nat) (av : List Value) (σ : gs_S) (Qf : gs_Q) : Prop := ∀ sz : Nat, Met l me.1 (gs_h me :: gw) (gr_r n) (va_Pc av (gs_P v ly N σ sz)) (Qf (va_A (gs_w v ly N σ) sz)) 0 0 (va_A (gs_w v ly N σ) sz)
def gC (v : gs_V) (ly : gs_L) (N : Nat) (me : gs_M) (p : Program) (s : State) (m : MethodId) (args : Array Value) (meth : Method) (c : Code) (A : Nat → Prop) : Prop :=
  p.tables.exec = Jvm.exec ∧ c.code = me.2.1 ∧ c.maxLocals = me.2.2.1 ∧ s.vm.findClass me.1.cls = some m.cls ∧ (∀ w ∈ gw, w.before args s = true) ∧ gs_K v s ∧ (∀ σ, va_D A (gs_w v ly N σ)) ∧ (∀ q, s.heap.size ≤ q → A q) ∧ meth.sig.returnType = me.2.2.2 ∧ meth.locks = false
def gG (l : Launch) (v : gs_V) (ly : gs_L) (N : Nat) (me : gs_M) (n : Nat) (Qf : gs_Q) (pc : Nat) (L : List (Nat × Value)) (st : List Value) (σ : gs_S) : Prop :=
  ∀ (p : Program) (e : Env) (s : State) (m : MethodId) (args : Array Value) (below : List Frame) (meth : Method) (c : Code) (A : Nat → Prop), gC v ly N me p s m args meth c A →
  ∀ (ls : Array Slot) (H : Heap) (locs : List Loc), lv_has ls me.2.2.1 L → va_P v.1 vwCl (gs_w v ly N σ) H → va_S A s.heap H locs →
  W p l e (gr_r (n + 1)) s m args below meth c H locs 0 0 (MQ below (Qf A) args s 0 0 A) (F0 m pc ls st)
section GR
variable {l : Launch} {v : gs_V} {ly : gs_L} {N : Nat} {me : gs_M} {n : Nat} {Qf : gs_Q} {pc : Nat} {L : List (Nat × Value)} {st rest : List Value} {σ : gs_S}
theorem gM_of {av : List Value} (hy : plainFor me.1 = true) (hl : (lg_sl av).length ≤ me.2.2.1) (h : gG l v ly N me n Qf 0 (lv_args 0 av) [] σ) : gM l v ly N me (n + 1) av σ Qf := by
  intro sz
  refine va_MetF (cc := me.2.1) (maxL := me.2.2.1) (ret := me.2.2.2) hy rfl ?_
  intro p e s m args below meth c s₁ B hml hv
  obtain ⟨rfl, hsz, hP, hK, hD0⟩ := hv
  subst hsz
  have hts := atoms_spec (ws := gs_h me :: gw) B.pre
  rw [lg_entry_eq]
  exact h p e s m _ below meth c (va_A (gs_w v ly N σ) s.heap.size) ⟨B.exec, B.bytes, hml, findClass_of_methodNamed B.named, fun w hw => hts w (List.mem_cons_of_mem _ hw), hK, fun σ' => gs_D hD0.self, fun q hq => Or.inr hq, B.returns, B.notSynchronized⟩ _ s.heap [] (lv_entry av hl) hP va_S.rf
theorem g_sub {L' : List (Nat × Value)} (ks : List Nat) (hk : lv_pick L ks = L') (k : gG l v ly N me n Qf pc L' st σ) : gG l v ly N me n Qf pc L st σ :=
  fun p e s m args below meth c A hC ls H locs hl hP hS => k p e s m args below meth c A hC ls H locs (lv_sub hl ks hk) hP hS
theorem g_eq {st' : List Value} {σ' : gs_S} {L' : List (Nat × Value)} (k : gG l v ly N me n Qf pc L' st' σ') (hL : L = L') (h : st = st') (hσ : σ = σ') : gG l v ly N me n Qf pc L st σ := by
  subst hL; subst h; subst hσ; exact k

theorem g_iconst {z : Int} {x : Int32} (d : decode me.2.1 pc = .ok (.iconst z, 1)) (hv : Int32.ofInt z = x) (k : gG l v ly N me n Qf (pc + 1) L (.int x :: rest) σ) : gG l v ly N me n Qf pc L (rest) σ :=
  fun p e s m args below meth c A hC ls H locs hl hP hS => lv_iconst hC.1 hC.2.1 d hv (k p e s m args below meth c A hC ls H locs hl hP hS)
theorem g_bipush {z : Int} {x : Int32} (d : decode me.2.1 pc = .ok (.bipush z, 2)) (hv : (Int8.ofInt z).toInt32 = x) (k : gG l v ly N me n Qf (pc + 2) L (.int x :: rest) σ) : gG l v ly N me n Qf pc L (rest) σ :=
  fun p e s m args below meth c A hC ls H locs hl hP hS => lv_bipush hC.1 hC.2.1 d hv (k p e s m args below meth c A hC ls H locs hl hP hS)
theorem g_sipush {z : Int} {x : Int32} (d : decode me.2.1 pc = .ok (.sipush z, 3)) (hv : (Int16.ofInt z).toInt32 = x) (k : gG l v ly N me n Qf (pc + 3) L (.int x :: rest) σ) : gG l v ly N me n Qf pc L (rest) σ :=
  fun p e s m args below meth c A hC ls H locs hl hP hS => lv_sipush hC.1 hC.2.1 d hv (k p e s m args below meth c A hC ls H locs hl hP hS)
theorem g_lconst {z : Fin 2} {x : Int64} (d : decode me.2.1 pc = .ok (.lconst z, 1)) (hv : Int64.ofNat (z : Nat) = x) (k : gG l v ly N me n Qf (pc + 1) L (.long x :: rest) σ) : gG l v ly N me n Qf pc L (rest) σ :=
  fun p e s m args below meth c A hC ls H locs hl hP hS => lv_lconst hC.1 hC.2.1 d hv (k p e s m args below meth c A hC ls H locs hl hP hS)
theorem g_iload_n {z : Fin 4} {i : Nat} {x : Int32} (d : decode me.2.1 pc = .ok (.iload_n z, 1)) (q : Nat) (hi : (z : Nat) = i) (hq : L[q]? = some (i, .int x)) (k : gG l v ly N me n Qf (pc + 1) L (.int x :: rest) σ) : gG l v ly N me n Qf pc L rest σ :=
  fun p e s m args below meth c A hC ls H locs hl hP hS => lv_iload_n hC.1 hC.2.1 d hi (lv_at hl q hq) (k p e s m args below meth c A hC ls H locs hl hP hS)
theorem g_iload {i : Nat} {x : Int32} (d : decode me.2.1 pc = .ok (.iload i, 2)) (q : Nat) (hq : L[q]? = some (i, .int x)) (k : gG l v ly N me n Qf (pc + 2) L (.int x :: rest) σ) : gG l v ly N me n Qf pc L rest σ :=
  fun p e s m args below meth c A hC ls H locs hl hP hS => lv_iload hC.1 hC.2.1 d (lv_at hl q hq) (k p e s m args below meth c A hC ls H locs hl hP hS)
theorem g_istore_n {z : Fin 4} {i : Nat} {x : Int32} {L' : List (Nat × Value)} (d : decode me.2.1 pc = .ok (.istore_n z, 1)) (hi : (z : Nat) = i) (hn : i < me.2.2.1) (hL : (i, Value.int x) :: L.filter (fun q => !(q.1 == i) && !(q.1 + 1 == i && q.2.category == 2)) = L') (k : gG l v ly N me n Qf (pc + 1) L' rest σ) : gG l v ly N me n Qf pc L (.int x :: rest) σ :=
  fun p e s m args below meth c A hC ls H locs hl hP hS => lv_istore_n hC.1 hC.2.1 d hi hl hn hL (fun ls hl => k p e s m args below meth c A hC ls H locs hl hP hS)
theorem g_istore {i : Nat} {x : Int32} {L' : List (Nat × Value)} (d : decode me.2.1 pc = .ok (.istore i, 2)) (hn : i < me.2.2.1) (hL : (i, Value.int x) :: L.filter (fun q => !(q.1 == i) && !(q.1 + 1 == i && q.2.category == 2)) = L') (k : gG l v ly N me n Qf (pc + 2) L' rest σ) : gG l v ly N me n Qf pc L (.int x :: rest) σ :=
  fun p e s m args below meth c A hC ls H locs hl hP hS => lv_istore hC.1 hC.2.1 d hl hn hL (fun ls hl => k p e s m args below meth c A hC ls H locs hl hP hS)
theorem g_lload_n {z : Fin 4} {i : Nat} {x : Int64} (d : decode me.2.1 pc = .ok (.lload_n z, 1)) (q : Nat) (hi : (z : Nat) = i) (hq : L[q]? = some (i, .long x)) (k : gG l v ly N me n Qf (pc + 1) L (.long x :: rest) σ) : gG l v ly N me n Qf pc L rest σ :=
  fun p e s m args below meth c A hC ls H locs hl hP hS => lv_lload_n hC.1 hC.2.1 d hi (lv_at hl q hq) (k p e s m args below meth c A hC ls H locs hl hP hS)
theorem g_lload {i : Nat} {x : Int64} (d : decode me.2.1 pc = .ok (.lload i, 2)) (q : Nat) (hq : L[q]? = some (i, .long x)) (k : gG l v ly N me n Qf (pc + 2) L (.long x :: rest) σ) : gG l v ly N me n Qf pc L rest σ :=
  fun p e s m args below meth c A hC ls H locs hl hP hS => lv_lload hC.1 hC.2.1 d (lv_at hl q hq) (k p e s m args below meth c A hC ls H locs hl hP hS)
theorem g_lstore_n {z : Fin 4} {i : Nat} {x : Int64} {L' : List (Nat × Value)} (d : decode me.2.1 pc = .ok (.lstore_n z, 1)) (hi : (z : Nat) = i) (hn : i + 1 < me.2.2.1) (hL : (i, Value.long x) :: L.filter (fun q => !(q.1 == i) && (!(q.1 == i + 1) && !(q.1 + 1 == i && q.2.category == 2))) = L') (k : gG l v ly N me n Qf (pc + 1) L' rest σ) : gG l v ly N me n Qf pc L (.long x :: rest) σ :=
  fun p e s m args below meth c A hC ls H locs hl hP hS => lv_lstore_n hC.1 hC.2.1 d hi hl hn hL (fun ls hl => k p e s m args below meth c A hC ls H locs hl hP hS)
theorem g_lstore {i : Nat} {x : Int64} {L' : List (Nat × Value)} (d : decode me.2.1 pc = .ok (.lstore i, 2)) (hn : i + 1 < me.2.2.1) (hL : (i, Value.long x) :: L.filter (fun q => !(q.1 == i) && (!(q.1 == i + 1) && !(q.1 + 1 == i && q.2.category == 2))) = L') (k : gG l v ly N me n Qf (pc + 2) L' rest σ) : gG l v ly N me n Qf pc L (.long x :: rest) σ :=
  fun p e s m args below meth c A hC ls H locs hl hP hS => lv_lstore hC.1 hC.2.1 d hl hn hL (fun ls hl => k p e s m args below meth c A hC ls H locs hl hP hS)
theorem g_aload_n {z : Fin 4} {i : Nat} {x : Nat} (d : decode me.2.1 pc = .ok (.aload_n z, 1)) (q : Nat) (hi : (z : Nat) = i) (hq : L[q]? = some (i, .ref x)) (k : gG l v ly N me n Qf (pc + 1) L (.ref x :: rest) σ) : gG l v ly N me n Qf pc L rest σ :=
  fun p e s m args below meth c A hC ls H locs hl hP hS => lv_aload_n hC.1 hC.2.1 d hi (lv_at hl q hq) (k p e s m args below meth c A hC ls H locs hl hP hS)
theorem g_aload {i : Nat} {x : Nat} (d : decode me.2.1 pc = .ok (.aload i, 2)) (q : Nat) (hq : L[q]? = some (i, .ref x)) (k : gG l v ly N me n Qf (pc + 2) L (.ref x :: rest) σ) : gG l v ly N me n Qf pc L rest σ :=
  fun p e s m args below meth c A hC ls H locs hl hP hS => lv_aload hC.1 hC.2.1 d (lv_at hl q hq) (k p e s m args below meth c A hC ls H locs hl hP hS)
theorem g_astore_n {z : Fin 4} {i : Nat} {x : Nat} {L' : List (Nat × Value)} (d : decode me.2.1 pc = .ok (.astore_n z, 1)) (hi : (z : Nat) = i) (hn : i < me.2.2.1) (hL : (i, Value.ref x) :: L.filter (fun q => !(q.1 == i) && !(q.1 + 1 == i && q.2.category == 2)) = L') (k : gG l v ly N me n Qf (pc + 1) L' rest σ) : gG l v ly N me n Qf pc L (.ref x :: rest) σ :=
  fun p e s m args below meth c A hC ls H locs hl hP hS => lv_astore_n hC.1 hC.2.1 d hi hl hn hL (fun ls hl => k p e s m args below meth c A hC ls H locs hl hP hS)
theorem g_astore {i : Nat} {x : Nat} {L' : List (Nat × Value)} (d : decode me.2.1 pc = .ok (.astore i, 2)) (hn : i < me.2.2.1) (hL : (i, Value.ref x) :: L.filter (fun q => !(q.1 == i) && !(q.1 + 1 == i && q.2.category == 2)) = L') (k : gG l v ly N me n Qf (pc + 2) L' rest σ) : gG l v ly N me n Qf pc L (.ref x :: rest) σ :=
  fun p e s m args below meth c A hC ls H locs hl hP hS => lv_astore hC.1 hC.2.1 d hl hn hL (fun ls hl => k p e s m args below meth c A hC ls H locs hl hP hS)
theorem g_iinc {i : Nat} {z : Int} {x y : Int32} {L' : List (Nat × Value)} (d : decode me.2.1 pc = .ok (.iinc i z, 3)) (q : Nat) (hq : L[q]? = some (i, .int x)) (hv : x + Int32.ofInt z = y) (hn : i < me.2.2.1) (hL : (i, Value.int y) :: L.filter (fun q => !(q.1 == i) && !(q.1 + 1 == i && q.2.category == 2)) = L') (k : gG l v ly N me n Qf (pc + 3) L' rest σ) : gG l v ly N me n Qf pc L rest σ :=
  fun p e s m args below meth c A hC ls H locs hl hP hS => lv_iinc hC.1 hC.2.1 d hl hq hv hn hL (fun ls hl => k p e s m args below meth c A hC ls H locs hl hP hS)
theorem g_iadd {x y : Int32} (d : decode me.2.1 pc = .ok (.iadd, 1))  (k : gG l v ly N me n Qf (pc + 1) L (.int (x + y) :: rest) σ) : gG l v ly N me n Qf pc L (.int y :: .int x :: rest) σ :=
  fun p e s m args below meth c A hC ls H locs hl hP hS => lv_iadd hC.1 hC.2.1 d  (k p e s m args below meth c A hC ls H locs hl hP hS)
theorem g_isub {x y : Int32} (d : decode me.2.1 pc = .ok (.isub, 1))  (k : gG l v ly N me n Qf (pc + 1) L (.int (x - y) :: rest) σ) : gG l v ly N me n Qf pc L (.int y :: .int x :: rest) σ :=
  fun p e s m args below meth c A hC ls H locs hl hP hS => lv_isub hC.1 hC.2.1 d  (k p e s m args below meth c A hC ls H locs hl hP hS)
theorem g_imul {x y : Int32} (d : decode me.2.1 pc = .ok (.imul, 1))  (k : gG l v ly N me n Qf (pc + 1) L (.int (x * y) :: rest) σ) : gG l v ly N me n Qf pc L (.int y :: .int x :: rest) σ :=
  fun p e s m args below meth c A hC ls H locs hl hP hS => lv_imul hC.1 hC.2.1 d  (k p e s m args below meth c A hC ls H locs hl hP hS)
theorem g_iand {x y : Int32} (d : decode me.2.1 pc = .ok (.iand, 1))  (k : gG l v ly N me n Qf (pc + 1) L (.int (x &&& y) :: rest) σ) : gG l v ly N me n Qf pc L (.int y :: .int x :: rest) σ :=
  fun p e s m args below meth c A hC ls H locs hl hP hS => lv_iand hC.1 hC.2.1 d  (k p e s m args below meth c A hC ls H locs hl hP hS)
theorem g_ior {x y : Int32} (d : decode me.2.1 pc = .ok (.ior, 1))  (k : gG l v ly N me n Qf (pc + 1) L (.int (x ||| y) :: rest) σ) : gG l v ly N me n Qf pc L (.int y :: .int x :: rest) σ :=
  fun p e s m args below meth c A hC ls H locs hl hP hS => lv_ior hC.1 hC.2.1 d  (k p e s m args below meth c A hC ls H locs hl hP hS)
theorem g_ixor {x y : Int32} (d : decode me.2.1 pc = .ok (.ixor, 1))  (k : gG l v ly N me n Qf (pc + 1) L (.int (x ^^^ y) :: rest) σ) : gG l v ly N me n Qf pc L (.int y :: .int x :: rest) σ :=
  fun p e s m args below meth c A hC ls H locs hl hP hS => lv_ixor hC.1 hC.2.1 d  (k p e s m args below meth c A hC ls H locs hl hP hS)
theorem g_idiv {x y : Int32} (d : decode me.2.1 pc = .ok (.idiv, 1)) (hz : ¬ y = 0) (k : gG l v ly N me n Qf (pc + 1) L (.int (x / y) :: rest) σ) : gG l v ly N me n Qf pc L (.int y :: .int x :: rest) σ :=
  fun p e s m args below meth c A hC ls H locs hl hP hS => lv_idiv hC.1 hC.2.1 d hz (k p e s m args below meth c A hC ls H locs hl hP hS)
theorem g_irem {x y : Int32} (d : decode me.2.1 pc = .ok (.irem, 1)) (hz : ¬ y = 0) (k : gG l v ly N me n Qf (pc + 1) L (.int (jR x y) :: rest) σ) : gG l v ly N me n Qf pc L (.int y :: .int x :: rest) σ :=
  fun p e s m args below meth c A hC ls H locs hl hP hS => lv_irem hC.1 hC.2.1 d hz (k p e s m args below meth c A hC ls H locs hl hP hS)
theorem g_ladd {x y : Int64} (d : decode me.2.1 pc = .ok (.ladd, 1))  (k : gG l v ly N me n Qf (pc + 1) L (.long (x + y) :: rest) σ) : gG l v ly N me n Qf pc L (.long y :: .long x :: rest) σ :=
  fun p e s m args below meth c A hC ls H locs hl hP hS => lv_ladd hC.1 hC.2.1 d  (k p e s m args below meth c A hC ls H locs hl hP hS)
theorem g_lsub {x y : Int64} (d : decode me.2.1 pc = .ok (.lsub, 1))  (k : gG l v ly N me n Qf (pc + 1) L (.long (x - y) :: rest) σ) : gG l v ly N me n Qf pc L (.long y :: .long x :: rest) σ :=
  fun p e s m args below meth c A hC ls H locs hl hP hS => lv_lsub hC.1 hC.2.1 d  (k p e s m args below meth c A hC ls H locs hl hP hS)
theorem g_lmul {x y : Int64} (d : decode me.2.1 pc = .ok (.lmul, 1))  (k : gG l v ly N me n Qf (pc + 1) L (.long (x * y) :: rest) σ) : gG l v ly N me n Qf pc L (.long y :: .long x :: rest) σ :=
  fun p e s m args below meth c A hC ls H locs hl hP hS => lv_lmul hC.1 hC.2.1 d  (k p e s m args below meth c A hC ls H locs hl hP hS)
theorem g_land {x y : Int64} (d : decode me.2.1 pc = .ok (.land, 1))  (k : gG l v ly N me n Qf (pc + 1) L (.long (x &&& y) :: rest) σ) : gG l v ly N me n Qf pc L (.long y :: .long x :: rest) σ :=
  fun p e s m args below meth c A hC ls H locs hl hP hS => lv_land hC.1 hC.2.1 d  (k p e s m args below meth c A hC ls H locs hl hP hS)
theorem g_lor {x y : Int64} (d : decode me.2.1 pc = .ok (.lor, 1))  (k : gG l v ly N me n Qf (pc + 1) L (.long (x ||| y) :: rest) σ) : gG l v ly N me n Qf pc L (.long y :: .long x :: rest) σ :=
  fun p e s m args below meth c A hC ls H locs hl hP hS => lv_lor hC.1 hC.2.1 d  (k p e s m args below meth c A hC ls H locs hl hP hS)
theorem g_lxor {x y : Int64} (d : decode me.2.1 pc = .ok (.lxor, 1))  (k : gG l v ly N me n Qf (pc + 1) L (.long (x ^^^ y) :: rest) σ) : gG l v ly N me n Qf pc L (.long y :: .long x :: rest) σ :=
  fun p e s m args below meth c A hC ls H locs hl hP hS => lv_lxor hC.1 hC.2.1 d  (k p e s m args below meth c A hC ls H locs hl hP hS)
theorem g_ldiv {x y : Int64} (d : decode me.2.1 pc = .ok (.ldiv, 1)) (hz : ¬ y = 0) (k : gG l v ly N me n Qf (pc + 1) L (.long (x / y) :: rest) σ) : gG l v ly N me n Qf pc L (.long y :: .long x :: rest) σ :=
  fun p e s m args below meth c A hC ls H locs hl hP hS => lv_ldiv hC.1 hC.2.1 d hz (k p e s m args below meth c A hC ls H locs hl hP hS)
theorem g_lrem {x y : Int64} (d : decode me.2.1 pc = .ok (.lrem, 1)) (hz : ¬ y = 0) (k : gG l v ly N me n Qf (pc + 1) L (.long (jRL x y) :: rest) σ) : gG l v ly N me n Qf pc L (.long y :: .long x :: rest) σ :=
  fun p e s m args below meth c A hC ls H locs hl hP hS => lv_lrem hC.1 hC.2.1 d hz (k p e s m args below meth c A hC ls H locs hl hP hS)
theorem g_ineg {x : Int32} (d : decode me.2.1 pc = .ok (.ineg, 1))  (k : gG l v ly N me n Qf (pc + 1) L (.int (-x) :: rest) σ) : gG l v ly N me n Qf pc L (.int x :: rest) σ :=
  fun p e s m args below meth c A hC ls H locs hl hP hS => lv_ineg hC.1 hC.2.1 d  (k p e s m args below meth c A hC ls H locs hl hP hS)
theorem g_lneg {x : Int64} (d : decode me.2.1 pc = .ok (.lneg, 1))  (k : gG l v ly N me n Qf (pc + 1) L (.long (-x) :: rest) σ) : gG l v ly N me n Qf pc L (.long x :: rest) σ :=
  fun p e s m args below meth c A hC ls H locs hl hP hS => lv_lneg hC.1 hC.2.1 d  (k p e s m args below meth c A hC ls H locs hl hP hS)
theorem g_ishl {x y : Int32} (d : decode me.2.1 pc = .ok (.ishl, 1))  (k : gG l v ly N me n Qf (pc + 1) L (.int (jSI x y) :: rest) σ) : gG l v ly N me n Qf pc L (.int y :: .int x :: rest) σ :=
  fun p e s m args below meth c A hC ls H locs hl hP hS => lv_ishl hC.1 hC.2.1 d  (k p e s m args below meth c A hC ls H locs hl hP hS)
theorem g_ishr {x y : Int32} (d : decode me.2.1 pc = .ok (.ishr, 1))  (k : gG l v ly N me n Qf (pc + 1) L (.int (jAI x y) :: rest) σ) : gG l v ly N me n Qf pc L (.int y :: .int x :: rest) σ :=
  fun p e s m args below meth c A hC ls H locs hl hP hS => lv_ishr hC.1 hC.2.1 d  (k p e s m args below meth c A hC ls H locs hl hP hS)
theorem g_i2l {x : Int32} (d : decode me.2.1 pc = .ok (.i2l, 1))  (k : gG l v ly N me n Qf (pc + 1) L (.long x.toInt64 :: rest) σ) : gG l v ly N me n Qf pc L (.int x :: rest) σ :=
  fun p e s m args below meth c A hC ls H locs hl hP hS => lv_i2l hC.1 hC.2.1 d rfl (k p e s m args below meth c A hC ls H locs hl hP hS)
theorem g_l2i {x : Int64} (d : decode me.2.1 pc = .ok (.l2i, 1))  (k : gG l v ly N me n Qf (pc + 1) L (.int x.toInt32 :: rest) σ) : gG l v ly N me n Qf pc L (.long x :: rest) σ :=
  fun p e s m args below meth c A hC ls H locs hl hP hS => lv_l2i hC.1 hC.2.1 d rfl (k p e s m args below meth c A hC ls H locs hl hP hS)
theorem g_i2c {x : Int32} (d : decode me.2.1 pc = .ok (.i2c, 1))  (k : gG l v ly N me n Qf (pc + 1) L (.int (x.toUInt32 % 65536).toInt32 :: rest) σ) : gG l v ly N me n Qf pc L (.int x :: rest) σ :=
  fun p e s m args below meth c A hC ls H locs hl hP hS => lv_i2c hC.1 hC.2.1 d rfl (k p e s m args below meth c A hC ls H locs hl hP hS)
theorem g_lushr {x : Int64} {y : Int32} (d : decode me.2.1 pc = .ok (.lushr, 1))  (k : gG l v ly N me n Qf (pc + 1) L (.long (jU x y) :: rest) σ) : gG l v ly N me n Qf pc L (.int y :: .long x :: rest) σ :=
  fun p e s m args below meth c A hC ls H locs hl hP hS => lv_lushr hC.1 hC.2.1 d rfl (k p e s m args below meth c A hC ls H locs hl hP hS)
theorem g_lshl {x : Int64} {y : Int32} (d : decode me.2.1 pc = .ok (.lshl, 1))  (k : gG l v ly N me n Qf (pc + 1) L (.long (jS x y) :: rest) σ) : gG l v ly N me n Qf pc L (.int y :: .long x :: rest) σ :=
  fun p e s m args below meth c A hC ls H locs hl hP hS => lv_lshl hC.1 hC.2.1 d rfl (k p e s m args below meth c A hC ls H locs hl hP hS)
theorem g_lshr {x : Int64} {y : Int32} (d : decode me.2.1 pc = .ok (.lshr, 1))  (k : gG l v ly N me n Qf (pc + 1) L (.long (jA x y) :: rest) σ) : gG l v ly N me n Qf pc L (.int y :: .long x :: rest) σ :=
  fun p e s m args below meth c A hC ls H locs hl hP hS => lv_lshr hC.1 hC.2.1 d rfl (k p e s m args below meth c A hC ls H locs hl hP hS)
theorem g_lcmp {x y : Int64} (d : decode me.2.1 pc = .ok (.lcmp, 1))  (k : gG l v ly N me n Qf (pc + 1) L (.int (lg_cmp x y) :: rest) σ) : gG l v ly N me n Qf pc L (.long y :: .long x :: rest) σ :=
  fun p e s m args below meth c A hC ls H locs hl hP hS => W.lcmp hC.1 hC.2.1 d  (k p e s m args below meth c A hC ls H locs hl hP hS)
theorem g_dup {a : Value} (d : decode me.2.1 pc = .ok (.dup, 1)) (ha : a.category = 1) (k : gG l v ly N me n Qf (pc + 1) L (a :: a :: rest) σ) : gG l v ly N me n Qf pc L (a :: rest) σ :=
  fun p e s m args below meth c A hC ls H locs hl hP hS => lv_dup hC.1 hC.2.1 d ha (k p e s m args below meth c A hC ls H locs hl hP hS)
theorem g_pop {a : Value} (d : decode me.2.1 pc = .ok (.pop, 1)) (ha : a.category = 1) (k : gG l v ly N me n Qf (pc + 1) L (rest) σ) : gG l v ly N me n Qf pc L (a :: rest) σ :=
  fun p e s m args below meth c A hC ls H locs hl hP hS => lv_pop hC.1 hC.2.1 d ha (k p e s m args below meth c A hC ls H locs hl hP hS)
theorem g_dup2_11 {a b : Value} (d : decode me.2.1 pc = .ok (.dup2, 1)) (ha : a.category = 1) (hb : b.category = 1) (k : gG l v ly N me n Qf (pc + 1) L (a :: b :: a :: b :: rest) σ) : gG l v ly N me n Qf pc L (a :: b :: rest) σ :=
  fun p e s m args below meth c A hC ls H locs hl hP hS => lv_dup2_11 hC.1 hC.2.1 d ha hb (k p e s m args below meth c A hC ls H locs hl hP hS)
theorem g_dup2_2 {a : Value} (d : decode me.2.1 pc = .ok (.dup2, 1)) (ha : a.category = 2) (k : gG l v ly N me n Qf (pc + 1) L (a :: a :: rest) σ) : gG l v ly N me n Qf pc L (a :: rest) σ :=
  fun p e s m args below meth c A hC ls H locs hl hP hS => lv_dup2_2 hC.1 hC.2.1 d ha (k p e s m args below meth c A hC ls H locs hl hP hS)
theorem g_pop2_2 {a : Value} (d : decode me.2.1 pc = .ok (.pop2, 1)) (ha : a.category = 2) (k : gG l v ly N me n Qf (pc + 1) L (rest) σ) : gG l v ly N me n Qf pc L (a :: rest) σ :=
  fun p e s m args below meth c A hC ls H locs hl hP hS => lv_pop2_2 hC.1 hC.2.1 d ha (k p e s m args below meth c A hC ls H locs hl hP hS)
theorem g_dup_x1 {a b : Value} (d : decode me.2.1 pc = .ok (.dup_x1, 1)) (ha : a.category = 1) (hb : b.category = 1) (k : gG l v ly N me n Qf (pc + 1) L (a :: b :: a :: rest) σ) : gG l v ly N me n Qf pc L (a :: b :: rest) σ :=
  fun p e s m args below meth c A hC ls H locs hl hP hS => lv_dup_x1 hC.1 hC.2.1 d ha hb (k p e s m args below meth c A hC ls H locs hl hP hS)
theorem g_if_eq {x : Int32} {off : Int} {tgt : Nat} (d : decode me.2.1 pc = .ok (.ifCond .eq off, 3)) (ht : (pc : Int) + off = (tgt : Int)) (kt : x = 0 → gG l v ly N me n Qf tgt L rest σ) (kf : ¬ x = 0 → gG l v ly N me n Qf (pc + 3) L rest σ) : gG l v ly N me n Qf pc L (.int x :: rest) σ :=
  fun p e s m args below meth c A hC ls H locs hl hP hS => lv_if_eq hC.1 hC.2.1 d ht (fun h => kt h p e s m args below meth c A hC ls H locs hl hP hS) (fun h => kf h p e s m args below meth c A hC ls H locs hl hP hS)
theorem g_icmp_eq {x y : Int32} {off : Int} {tgt : Nat} (d : decode me.2.1 pc = .ok (.if_icmp .eq off, 3)) (ht : (pc : Int) + off = (tgt : Int)) (kt : x = y → gG l v ly N me n Qf tgt L rest σ) (kf : ¬ x = y → gG l v ly N me n Qf (pc + 3) L rest σ) : gG l v ly N me n Qf pc L (.int y :: .int x :: rest) σ :=
  fun p e s m args below meth c A hC ls H locs hl hP hS => lv_icmp_eq hC.1 hC.2.1 d ht (fun h => kt h p e s m args below meth c A hC ls H locs hl hP hS) (fun h => kf h p e s m args below meth c A hC ls H locs hl hP hS)
theorem g_if_ne {x : Int32} {off : Int} {tgt : Nat} (d : decode me.2.1 pc = .ok (.ifCond .ne off, 3)) (ht : (pc : Int) + off = (tgt : Int)) (kt : ¬ x = 0 → gG l v ly N me n Qf tgt L rest σ) (kf : x = 0 → gG l v ly N me n Qf (pc + 3) L rest σ) : gG l v ly N me n Qf pc L (.int x :: rest) σ :=
  fun p e s m args below meth c A hC ls H locs hl hP hS => lv_if_ne hC.1 hC.2.1 d ht (fun h => kt h p e s m args below meth c A hC ls H locs hl hP hS) (fun h => kf h p e s m args below meth c A hC ls H locs hl hP hS)
theorem g_icmp_ne {x y : Int32} {off : Int} {tgt : Nat} (d : decode me.2.1 pc = .ok (.if_icmp .ne off, 3)) (ht : (pc : Int) + off = (tgt : Int)) (kt : ¬ x = y → gG l v ly N me n Qf tgt L rest σ) (kf : x = y → gG l v ly N me n Qf (pc + 3) L rest σ) : gG l v ly N me n Qf pc L (.int y :: .int x :: rest) σ :=
  fun p e s m args below meth c A hC ls H locs hl hP hS => lv_icmp_ne hC.1 hC.2.1 d ht (fun h => kt h p e s m args below meth c A hC ls H locs hl hP hS) (fun h => kf h p e s m args below meth c A hC ls H locs hl hP hS)
theorem g_if_lt {x : Int32} {off : Int} {tgt : Nat} (d : decode me.2.1 pc = .ok (.ifCond .lt off, 3)) (ht : (pc : Int) + off = (tgt : Int)) (kt : x < 0 → gG l v ly N me n Qf tgt L rest σ) (kf : ¬ x < 0 → gG l v ly N me n Qf (pc + 3) L rest σ) : gG l v ly N me n Qf pc L (.int x :: rest) σ :=
  fun p e s m args below meth c A hC ls H locs hl hP hS => lv_if_lt hC.1 hC.2.1 d ht (fun h => kt h p e s m args below meth c A hC ls H locs hl hP hS) (fun h => kf h p e s m args below meth c A hC ls H locs hl hP hS)
theorem g_icmp_lt {x y : Int32} {off : Int} {tgt : Nat} (d : decode me.2.1 pc = .ok (.if_icmp .lt off, 3)) (ht : (pc : Int) + off = (tgt : Int)) (kt : x < y → gG l v ly N me n Qf tgt L rest σ) (kf : ¬ x < y → gG l v ly N me n Qf (pc + 3) L rest σ) : gG l v ly N me n Qf pc L (.int y :: .int x :: rest) σ :=
  fun p e s m args below meth c A hC ls H locs hl hP hS => lv_icmp_lt hC.1 hC.2.1 d ht (fun h => kt h p e s m args below meth c A hC ls H locs hl hP hS) (fun h => kf h p e s m args below meth c A hC ls H locs hl hP hS)
theorem g_if_ge {x : Int32} {off : Int} {tgt : Nat} (d : decode me.2.1 pc = .ok (.ifCond .ge off, 3)) (ht : (pc : Int) + off = (tgt : Int)) (kt : 0 ≤ x → gG l v ly N me n Qf tgt L rest σ) (kf : ¬ 0 ≤ x → gG l v ly N me n Qf (pc + 3) L rest σ) : gG l v ly N me n Qf pc L (.int x :: rest) σ :=
  fun p e s m args below meth c A hC ls H locs hl hP hS => lv_if_ge hC.1 hC.2.1 d ht (fun h => kt h p e s m args below meth c A hC ls H locs hl hP hS) (fun h => kf h p e s m args below meth c A hC ls H locs hl hP hS)
theorem g_icmp_ge {x y : Int32} {off : Int} {tgt : Nat} (d : decode me.2.1 pc = .ok (.if_icmp .ge off, 3)) (ht : (pc : Int) + off = (tgt : Int)) (kt : y ≤ x → gG l v ly N me n Qf tgt L rest σ) (kf : ¬ y ≤ x → gG l v ly N me n Qf (pc + 3) L rest σ) : gG l v ly N me n Qf pc L (.int y :: .int x :: rest) σ :=
  fun p e s m args below meth c A hC ls H locs hl hP hS => lv_icmp_ge hC.1 hC.2.1 d ht (fun h => kt h p e s m args below meth c A hC ls H locs hl hP hS) (fun h => kf h p e s m args below meth c A hC ls H locs hl hP hS)
theorem g_if_gt {x : Int32} {off : Int} {tgt : Nat} (d : decode me.2.1 pc = .ok (.ifCond .gt off, 3)) (ht : (pc : Int) + off = (tgt : Int)) (kt : 0 < x → gG l v ly N me n Qf tgt L rest σ) (kf : ¬ 0 < x → gG l v ly N me n Qf (pc + 3) L rest σ) : gG l v ly N me n Qf pc L (.int x :: rest) σ :=
  fun p e s m args below meth c A hC ls H locs hl hP hS => lv_if_gt hC.1 hC.2.1 d ht (fun h => kt h p e s m args below meth c A hC ls H locs hl hP hS) (fun h => kf h p e s m args below meth c A hC ls H locs hl hP hS)
theorem g_icmp_gt {x y : Int32} {off : Int} {tgt : Nat} (d : decode me.2.1 pc = .ok (.if_icmp .gt off, 3)) (ht : (pc : Int) + off = (tgt : Int)) (kt : y < x → gG l v ly N me n Qf tgt L rest σ) (kf : ¬ y < x → gG l v ly N me n Qf (pc + 3) L rest σ) : gG l v ly N me n Qf pc L (.int y :: .int x :: rest) σ :=
  fun p e s m args below meth c A hC ls H locs hl hP hS => lv_icmp_gt hC.1 hC.2.1 d ht (fun h => kt h p e s m args below meth c A hC ls H locs hl hP hS) (fun h => kf h p e s m args below meth c A hC ls H locs hl hP hS)
theorem g_if_le {x : Int32} {off : Int} {tgt : Nat} (d : decode me.2.1 pc = .ok (.ifCond .le off, 3)) (ht : (pc : Int) + off = (tgt : Int)) (kt : x ≤ 0 → gG l v ly N me n Qf tgt L rest σ) (kf : ¬ x ≤ 0 → gG l v ly N me n Qf (pc + 3) L rest σ) : gG l v ly N me n Qf pc L (.int x :: rest) σ :=
  fun p e s m args below meth c A hC ls H locs hl hP hS => lv_if_le hC.1 hC.2.1 d ht (fun h => kt h p e s m args below meth c A hC ls H locs hl hP hS) (fun h => kf h p e s m args below meth c A hC ls H locs hl hP hS)
theorem g_icmp_le {x y : Int32} {off : Int} {tgt : Nat} (d : decode me.2.1 pc = .ok (.if_icmp .le off, 3)) (ht : (pc : Int) + off = (tgt : Int)) (kt : x ≤ y → gG l v ly N me n Qf tgt L rest σ) (kf : ¬ x ≤ y → gG l v ly N me n Qf (pc + 3) L rest σ) : gG l v ly N me n Qf pc L (.int y :: .int x :: rest) σ :=
  fun p e s m args below meth c A hC ls H locs hl hP hS => lv_icmp_le hC.1 hC.2.1 d ht (fun h => kt h p e s m args below meth c A hC ls H locs hl hP hS) (fun h => kf h p e s m args below meth c A hC ls H locs hl hP hS)
theorem g_goto {off : Int} {tgt : Nat} (d : decode me.2.1 pc = .ok (.goto off, 3)) (ht : (pc : Int) + off = (tgt : Int)) (k : gG l v ly N me n Qf tgt L st σ) : gG l v ly N me n Qf pc L st σ :=
  fun p e s m args below meth c A hC ls H locs hl hP hS => lv_goto hC.1 hC.2.1 d ht (k p e s m args below meth c A hC ls H locs hl hP hS)
theorem g_ldc2 {index : Nat} {x : Int64} (d : decode me.2.1 pc = .ok (.ldc2_w index, 3)) (hw : Cond.constantLong me.1.cls index x ∈ gw) (k : gG l v ly N me n Qf (pc + 3) L (.long x :: rest) σ) : gG l v ly N me n Qf pc L rest σ :=
  fun p e s m args below meth c A hC ls H locs hl hP hS => lv_ldc2 hC.1 hC.2.1 hC.2.2.2.1 (hC.2.2.2.2.1 _ hw) d (k p e s m args below meth c A hC ls H locs hl hP hS)
theorem g_ldc {index : Nat} {x : Int32} (d : decode me.2.1 pc = .ok (.ldc index, 2)) (hw : Cond.constant me.1.cls index x ∈ gw) (k : gG l v ly N me n Qf (pc + 2) L (.int x :: rest) σ) : gG l v ly N me n Qf pc L rest σ :=
  fun p e s m args below meth c A hC ls H locs hl hP hS => lv_ldc hC.1 hC.2.1 hC.2.2.2.1 (hC.2.2.2.2.1 _ hw) d (k p e s m args below meth c A hC ls H locs hl hP hS)
theorem g_iald {q b len : Nat} {i : Int32} (d : decode me.2.1 pc = .ok (.iaload, 1)) (hq : q < N) (hy : ly q = .inl (0, len, b)) {x : Int32} (hi : vp_in i len) (hx : σ.1 q i.toNatClampNeg = x) (k : gG l v ly N me n Qf (pc + 1) L (.int x :: rest) σ) : gG l v ly N me n Qf pc L (.int i :: .ref (v.2.2 q) :: rest) σ :=
  fun p e s m args below meth c A hC ls H locs hl hP hS => va_iald hC.1 hC.2.1 hC.2.2.2.2.2.1.1 hP q 0 (gs_ai hq hy) rfl hi d (hx ▸ k p e s m args below meth c A hC ls H locs hl hP hS)
theorem g_lald {q b len : Nat} {i : Int32} (d : decode me.2.1 pc = .ok (.laload, 1)) (hq : q < N) (hy : ly q = .inl (1, len, b)) {x : Int64} (hi : vp_in i len) (hx : σ.2.1 q i.toNatClampNeg = x) (k : gG l v ly N me n Qf (pc + 1) L (.long x :: rest) σ) : gG l v ly N me n Qf pc L (.int i :: .ref (v.2.2 q) :: rest) σ :=
  fun p e s m args below meth c A hC ls H locs hl hP hS => va_lald hC.1 hC.2.1 hC.2.2.2.2.2.1.1 hP q 1 (gs_al hq hy) rfl hi d (hx ▸ k p e s m args below meth c A hC ls H locs hl hP hS)
theorem g_zald {q b len : Nat} {i : Int32} (d : decode me.2.1 pc = .ok (.baload, 1)) (hq : q < N) (hy : ly q = .inl (2, len, b)) {x : Int32} (hi : vp_in i len) (hx : σ.1 q i.toNatClampNeg = x) (k : gG l v ly N me n Qf (pc + 1) L (.int x :: rest) σ) : gG l v ly N me n Qf pc L (.int i :: .ref (v.2.2 q) :: rest) σ :=
  fun p e s m args below meth c A hC ls H locs hl hP hS => va_zald hC.1 hC.2.1 hC.2.2.2.2.2.1.1 hP q 2 (gs_az hq hy) rfl hi d (hx ▸ k p e s m args below meth c A hC ls H locs hl hP hS)
theorem g_cald {q b len : Nat} {i : Int32} (d : decode me.2.1 pc = .ok (.caload, 1)) (hq : q < N) (hy : ly q = .inl (3, len, b)) {x : Int32} (hi : vp_in i len) (hx : σ.1 q i.toNatClampNeg = x) (k : gG l v ly N me n Qf (pc + 1) L (.int x :: rest) σ) : gG l v ly N me n Qf pc L (.int i :: .ref (v.2.2 q) :: rest) σ :=
  fun p e s m args below meth c A hC ls H locs hl hP hS => va_cald hC.1 hC.2.1 hC.2.2.2.2.2.1.1 hP q 3 (gs_ac hq hy) rfl hi d (hx ▸ k p e s m args below meth c A hC ls H locs hl hP hS)
theorem g_iast {q b len : Nat} {i x : Int32} (d : decode me.2.1 pc = .ok (.iastore, 1)) (hq : q < N) (hy : ly q = .inl (0, len, b)) (hi : vp_in i len) (k : gG l v ly N me n Qf (pc + 1) L rest (gs_pI σ q i.toNatClampNeg x)) : gG l v ly N me n Qf pc L (.int x :: .int i :: .ref (v.2.2 q) :: rest) σ :=
  fun p e s m args below meth c A hC ls H locs hl hP hS => va_iast hC.1 hC.2.1 hC.2.2.2.2.2.1.1 hP (hC.2.2.2.2.2.2.1 σ) hS q 0 (gs_ai hq hy) rfl hi d (fun H locs hP' hD' hS => by rw [gs_set_A hy (by decide) (by decide)] at hP'; exact k p e s m args below meth c A hC ls H locs hl hP' hS)
theorem g_zast {q b len : Nat} {i x : Int32} (d : decode me.2.1 pc = .ok (.bastore, 1)) (hq : q < N) (hy : ly q = .inl (2, len, b)) (hi : vp_in i len) (k : gG l v ly N me n Qf (pc + 1) L rest (gs_pI σ q i.toNatClampNeg (vp_nar .boolean x))) : gG l v ly N me n Qf pc L (.int x :: .int i :: .ref (v.2.2 q) :: rest) σ :=
  fun p e s m args below meth c A hC ls H locs hl hP hS => va_zast hC.1 hC.2.1 hC.2.2.2.2.2.1.1 hP (hC.2.2.2.2.2.2.1 σ) hS q 2 (gs_az hq hy) rfl hi d (fun H locs hP' hD' hS => by rw [gs_set_A hy (by decide) (by decide)] at hP'; exact k p e s m args below meth c A hC ls H locs hl hP' hS)
theorem g_cast {q b len : Nat} {i x : Int32} (d : decode me.2.1 pc = .ok (.castore, 1)) (hq : q < N) (hy : ly q = .inl (3, len, b)) (hi : vp_in i len) (k : gG l v ly N me n Qf (pc + 1) L rest (gs_pI σ q i.toNatClampNeg (vp_nar .char x))) : gG l v ly N me n Qf pc L (.int x :: .int i :: .ref (v.2.2 q) :: rest) σ :=
  fun p e s m args below meth c A hC ls H locs hl hP hS => va_cast hC.1 hC.2.1 hC.2.2.2.2.2.1.1 hP (hC.2.2.2.2.2.2.1 σ) hS q 3 (gs_ac hq hy) rfl hi d (fun H locs hP' hD' hS => by rw [gs_set_A hy (by decide) (by decide)] at hP'; exact k p e s m args below meth c A hC ls H locs hl hP' hS)
theorem g_last {q b len : Nat} {i : Int32} {x : Int64} (d : decode me.2.1 pc = .ok (.lastore, 1)) (hq : q < N) (hy : ly q = .inl (1, len, b)) (hi : vp_in i len) (k : gG l v ly N me n Qf (pc + 1) L rest (gs_pL σ q i.toNatClampNeg x)) : gG l v ly N me n Qf pc L (.long x :: .int i :: .ref (v.2.2 q) :: rest) σ :=
  fun p e s m args below meth c A hC ls H locs hl hP hS => va_last hC.1 hC.2.1 hC.2.2.2.2.2.1.1 hP (hC.2.2.2.2.2.2.1 σ) hS q 1 (gs_al hq hy) rfl hi d (fun H locs hP' hD' hS => by rw [gs_set_B hy] at hP'; exact k p e s m args below meth c A hC ls H locs hl hP' hS)
theorem g_aald {q b len : Nat} {i : Int32} (d : decode me.2.1 pc = .ok (.aaload, 1)) (hq : q < N) (hy : ly q = .inl (4, len, b)) (hi : vp_in i len) (k : gG l v ly N me n Qf (pc + 1) L (.ref (v.2.2 (b + i.toNatClampNeg)) :: rest) σ) : gG l v ly N me n Qf pc L (.int i :: .ref (v.2.2 q) :: rest) σ := by
  intro p e s m args below meth c A hC ls H locs hl hP hS
  have hlt : i.toNatClampNeg < len := Nat.not_le.mp fun q => hi (Or.inr q)
  have hc := hP q _ (gs_aq hq hy)
  exact W.aald (v := .ref (v.2.2 (b + i.toNatClampNeg))) (ty := .array .long) hC.1 hC.2.1 hc ((hC.2.2.2.2.2.1.1.2 4 _ rfl).1 len (fun j => va_rf (some (v.2.2 (b + j))))) rfl (fun q => by cases q) (by show ¬ (i < 0 ∨ (arrV _ _ _).slots.size ≤ _); rw [arrV_size]; exact hi) (by show (arrV _ _ _).slots[_]? = _; rw [arrV_read _ _ hlt]; rfl) rfl rfl d (k p e s m args below meth c A hC ls H locs hl hP hS)
theorem g_alen {q t b len : Nat} {x : Int32} (d : decode me.2.1 pc = .ok (.arraylength, 1)) (hq : q < N) (hy : ly q = .inl (t, len, b)) (ht : t < 5) (hx : Int32.ofNat len = x) (k : gG l v ly N me n Qf (pc + 1) L (.int x :: rest) σ) : gG l v ly N me n Qf pc L (.ref (v.2.2 q) :: rest) σ := by
  intro p e s m args below meth c A hC ls H locs hl hP hS
  have hg : (gs_w v ly N σ)[q]? = some (v.2.2 q, .inl (gs_a v σ q t len b)) := by rw [gs_w_get hq, gs_e_arr hy]
  have hc : (gs_a v σ q t len b).1 = v.2.1 t ∧ (gs_a v σ q t len b).2.1 = len := by
    unfold gs_a
    split <;> exact ⟨rfl, rfl⟩
  have hty : (gs_t v)[t]? = some ((gs_a v σ q t len b).1, gs_ty t) := by
    rw [hc.1]
    rcases (show t = 0 ∨ t = 1 ∨ t = 2 ∨ t = 3 ∨ t = 4 by omega) with h | h | h | h | h <;> subst h <;> rfl
  exact va_alen (cA := (gs_a v σ q t len b).1) (x := (gs_a v σ q t len b).2) hC.1 hC.2.1 hC.2.2.2.2.2.1.1 hP q t hg hty (show Int32.ofNat (gs_a v σ q t len b).2.1 = x by rw [hc.2]; exact hx) d (k p e s m args below meth c A hC ls H locs hl hP hS)

-- a field's words: at this pool number of 'own' stands field j of class ci
def gF (own : String) (index ci j : Nat) : Prop := ∃ (C : String) (T : u_T) (M : Nat), vwCl[ci]? = some (C, T, M) ∧ j < M ∧ (∀ w ∈ u_ws C T M, w ∈ gw) ∧ Cond.fieldLink own index C (T j).2.1 (T j).2.2.1 ∈ gw ∧ (T j).1 = C
def gFp (own : String) (index ci j : Nat) (ty : FieldType) : Prop := ∃ (C : String) (T : u_T) (M : Nat) (ty0 : Nat → FieldType), vwCl[ci]? = some (C, T, M) ∧ j < M ∧ (∀ w ∈ u_ws C T M, w ∈ gw) ∧ Cond.fieldLink own index C (T j).2.1 (T j).2.2.1 ∈ gw ∧ (T j).1 = C ∧ (∀ k, k < M → parseFieldDescriptor (T k).2.2.1 = some (ty0 k)) ∧ (∀ a, a < M → ∀ b, b < M → a ≠ b → (T a).2.1 ≠ (T b).2.1) ∧ (T j).2.2.2 = false ∧ parseFieldDescriptor (T j).2.2.1 = some ty
theorem g_getV {q ci j fd index : Nat} {fds : List Nat} {x : Value} (d : decode me.2.1 pc = .ok (.getfield index, 3)) (hF : gF me.1.cls index ci j) (hq : q < N) (hy : ly q = .inr (ci, fds)) (hj : fds[j]? = some fd) (hx : gs_f v σ q j fd = x) (k : gG l v ly N me n Qf (pc + 3) L (x :: rest) σ) : gG l v ly N me n Qf pc L (.ref (v.2.2 q) :: rest) σ := by
  intro p e s m args below meth c A hC ls H locs hl hP hS
  obtain ⟨C, T, M, h1, h2, h3, h4, h5⟩ := hF
  exact va_get (ref := C) hC.1 hC.2.1 hC.2.2.2.2.1 h3 hC.2.2.2.1 hC.2.2.2.2.2.1.1 hP q (gs_ob hq hy) h1 j h2 (hC.2.2.2.2.1 _ h4) (fun x hx => by rw [h5] at hx; exact hx) (by rw [gs_fs_get fds 0 j fd hj, Nat.zero_add, hx]) d (k p e s m args below meth c A hC ls H locs hl hP hS)
theorem g_putI {q ci j index : Nat} {fds : List Nat} {ty : FieldType} {x : Int32} (d : decode me.2.1 pc = .ok (.putfield index, 3)) (hF : gFp me.1.cls index ci j ty) (hq : q < N) (hy : ly q = .inr (ci, fds)) (hj : fds[j]? = some 0) (hn : narrow ty (.int x) = .int x ∧ fits ty (.int x) = true) (k : gG l v ly N me n Qf (pc + 3) L rest (gs_pI σ q j x)) : gG l v ly N me n Qf pc L (.int x :: .ref (v.2.2 q) :: rest) σ := by
  intro p e s m args below meth c A hC ls H locs hl hP hS
  obtain ⟨C, T, M, ty0, h1, h2, h3, h4, h5, h6, h7, h8, h9⟩ := hF
  exact va_put (ref := C) hC.1 hC.2.1 hC.2.2.2.2.1 h3 ty0 h6 h7 hC.2.2.2.1 hC.2.2.2.2.2.1.1 hP (hC.2.2.2.2.2.2.1 σ) hS q (gs_ob hq hy) h1 j h2 (hC.2.2.2.2.1 _ h4) (fun x hx => by rw [h5] at hx; exact hx) h8 h9 hn.1 hn.2 (by rw [gs_fs_len]; exact (List.getElem?_eq_some_iff.mp hj).1) d (fun H locs hP' hD' hS => by rw [gs_set_I hy hj] at hP'; exact k p e s m args below meth c A hC ls H locs hl hP' hS)
theorem g_putL {q ci j index : Nat} {fds : List Nat} {x : Int64} (d : decode me.2.1 pc = .ok (.putfield index, 3)) (hF : gFp me.1.cls index ci j .long) (hq : q < N) (hy : ly q = .inr (ci, fds)) (hj : fds[j]? = some 1) (k : gG l v ly N me n Qf (pc + 3) L rest (gs_pL σ q j x)) : gG l v ly N me n Qf pc L (.long x :: .ref (v.2.2 q) :: rest) σ := by
  intro p e s m args below meth c A hC ls H locs hl hP hS
  obtain ⟨C, T, M, ty0, h1, h2, h3, h4, h5, h6, h7, h8, h9⟩ := hF
  exact va_put (ref := C) hC.1 hC.2.1 hC.2.2.2.2.1 h3 ty0 h6 h7 hC.2.2.2.1 hC.2.2.2.2.2.1.1 hP (hC.2.2.2.2.2.2.1 σ) hS q (gs_ob hq hy) h1 j h2 (hC.2.2.2.2.1 _ h4) (fun x hx => by rw [h5] at hx; exact hx) h8 h9 rfl rfl (by rw [gs_fs_len]; exact (List.getElem?_eq_some_iff.mp hj).1) d (fun H locs hP' hD' hS => by rw [gs_set_J hy hj] at hP'; exact k p e s m args below meth c A hC ls H locs hl hP' hS)
theorem g_putR {q ci j index y : Nat} {fds : List Nat} {ty : FieldType} (d : decode me.2.1 pc = .ok (.putfield index, 3)) (hF : gFp me.1.cls index ci j (.array ty)) (hq : q < N) (hy : ly q = .inr (ci, fds)) (hj : fds[j]? = some 2) (k : gG l v ly N me n Qf (pc + 3) L rest (gs_pR σ q j y)) : gG l v ly N me n Qf pc L (.ref (v.2.2 y) :: .ref (v.2.2 q) :: rest) σ := by
  intro p e s m args below meth c A hC ls H locs hl hP hS
  obtain ⟨C, T, M, ty0, h1, h2, h3, h4, h5, h6, h7, h8, h9⟩ := hF
  exact va_put (ref := C) hC.1 hC.2.1 hC.2.2.2.2.1 h3 ty0 h6 h7 hC.2.2.2.1 hC.2.2.2.2.2.1.1 hP (hC.2.2.2.2.2.2.1 σ) hS q (gs_ob hq hy) h1 j h2 (hC.2.2.2.2.1 _ h4) (fun x hx => by rw [h5] at hx; exact hx) h8 h9 rfl rfl (by rw [gs_fs_len]; exact (List.getElem?_eq_some_iff.mp hj).1) d (fun H locs hP' hD' hS => by rw [gs_set_R hy hj] at hP'; exact k p e s m args below meth c A hC ls H locs hl hP' hS)
-- ends
theorem g_iret {post : Int32 → gs_S → Prop} {x : Int32} (d : decode me.2.1 pc = .ok (.ireturn, 1)) (hr : me.2.2.2 = some .int) (h : post x σ) : gG l v ly N me n (qI v ly N post) pc L [.int x] σ :=
  fun p e s m args below meth c A hC ls H locs hl hP hS => W.iret hC.1 hC.2.1 (by rw [hC.2.2.2.2.2.2.2.2.1, hr]) (fun t ht hW => ⟨⟨x, σ, rfl, h, by show va_P _ _ _ t.heap; rw [ht]; exact hP⟩, hS.F ht⟩) hS.2.2 d hC.2.2.2.2.2.2.2.2.2
theorem g_zret {post : Int32 → gs_S → Prop} {x : Int32} {ty : FieldType} (d : decode me.2.1 pc = .ok (.ireturn, 1)) (hr : me.2.2.2 = some ty) (hn : narrow ty (.int x) = .int x) (h : post x σ) : gG l v ly N me n (qI v ly N post) pc L [.int x] σ :=
  fun p e s m args below meth c A hC ls H locs hl hP hS => W.zret hC.1 hC.2.1 (by rw [hC.2.2.2.2.2.2.2.2.1, hr]) hn (fun t ht hW => ⟨⟨x, σ, rfl, h, by show va_P _ _ _ t.heap; rw [ht]; exact hP⟩, hS.F ht⟩) hS.2.2 d hC.2.2.2.2.2.2.2.2.2
theorem g_lret {post : Int64 → gs_S → Prop} {x : Int64} (d : decode me.2.1 pc = .ok (.lreturn, 1)) (hr : me.2.2.2 = some .long) (h : post x σ) : gG l v ly N me n (qL v ly N post) pc L [.long x] σ :=
  fun p e s m args below meth c A hC ls H locs hl hP hS => W.lret hC.1 hC.2.1 (by rw [hC.2.2.2.2.2.2.2.2.1, hr]) (fun t ht hW => ⟨⟨x, σ, rfl, h, by show va_P _ _ _ t.heap; rw [ht]; exact hP⟩, hS.F ht⟩) hS.2.2 d hC.2.2.2.2.2.2.2.2.2
theorem g_vret {post : gs_S → Prop} (d : decode me.2.1 pc = .ok (.return_, 1)) (hr : me.2.2.2 = none) (h : post σ) : gG l v ly N me n (qV v ly N post) pc L [] σ :=
  fun p e s m args below meth c A hC ls H locs hl hP hS => W.vret hC.1 hC.2.1 (by rw [hC.2.2.2.2.2.2.2.2.1, hr]) (fun t ht hW => ⟨⟨σ, rfl, h, by show va_P _ _ _ t.heap; rw [ht]; exact hP⟩, hS.F ht⟩) hS.2.2 d hC.2.2.2.2.2.2.2.2.2
-- calls
def gY (me : gs_M) (a : Nat) : Prop := gs_h me ∈ gw ∧ Cond.initialized me.1.cls ∈ gw ∧ (me.1.cls ≠ "java/lang/invoke/MethodHandle" ∧ me.1.cls ≠ "java/lang/invoke/VarHandle" ∧ (parseMethodDescriptor me.1.desc).map (fun d => d.parameters.length) = some a) ∧ me.2.2.1 ≤ 21
theorem g_good {me : gs_M} (h : gs_h me ∈ gw) : GoodIn gw (gs_h me :: gw) := fun w hw => by
  rcases List.mem_cons.mp hw with rfl | hw
  · exact ⟨h, gw_good _ h⟩
  · exact ⟨hw, gw_good _ hw⟩
theorem g_B {me' : gs_M} {a index : Nat} {s : State} {args : Array Value} (hY : gY me' a) (hts : ∀ w ∈ gw, w.before args s = true) (hL : Cond.methodLink me.1.cls index me'.1 ∈ gw) : CallB (gr_r (n + 1)) s args me.1.cls index me'.1 me'.2.1 me'.2.2.1 me'.2.2.2 (gs_h me' :: gw) (gr_r n) 0 0 a :=
  callB_of a hts (g_good hY.1) rfl rfl rfl (hts _ hY.2.1) (hts _ hL) hY.2.2.1 ⟨Nat.le_refl _, by have := hY.2.2.2; simp only [gr_r]; omega⟩
theorem g_N {me' : gs_M} {a index : Nat} {host : String} {s : State} {args : Array Value} (hY : gY me' a) (hts : ∀ w ∈ gw, w.before args s = true) (hL : va_Nw (.methodLinkNest me.1.cls index me'.1 host) s) : va_CN (gr_r (n + 1)) s args me.1.cls index me'.1 host me'.2.1 me'.2.2.1 me'.2.2.2 (gs_h me' :: gw) (gr_r n) 0 0 a :=
  va_cnB a hts (g_good hY.1) rfl rfl rfl hL (hts _ hY.2.1) hY.2.2.1 ⟨Nat.le_refl _, by have := hY.2.2.2; simp only [gr_r]; omega⟩
theorem g_blind {av : List Value} {sz : Nat} : FrameBlind (va_Pc av (gs_P v ly N σ sz)) := fun a U g mk q => by
  obtain ⟨q0, q1, qP, qK, qD⟩ := q
  exact ⟨q0, q1, qP, gs_K_same rfl qK, qD⟩
theorem g_pre {A : Nat → Prop} {s : State} {H : Heap} {av : List Value} (hK : gs_K v s) (hP : va_P v.1 vwCl (gs_w v ly N σ) H) (hD : va_D A (gs_w v ly N σ)) : ∀ U : State, U.heap = H → s.WarmedH U.vm → va_Pc av (gs_P v ly N σ H.size) av.toArray U :=
  fun U hU hW => ⟨rfl, by rw [hU], by rw [hU]; exact hP, gs_K_warm hW hK, hD.weaken (fun _ _ _ _ => trivial)⟩
theorem g_free {A : Nat → Prop} {H0 H : Heap} {locs : List Loc} (hD : va_D A (gs_w v ly N σ)) (hA : ∀ q, H0.size ≤ q → A q) (hS : va_S A H0 H locs) : ∀ q, va_A (gs_w v ly N σ) H.size q → A q := fun q h => by
  rcases h with ⟨k, e, h⟩ | h
  · exact hD.2 k _ h
  · exact hA q (Nat.le_trans hS.1 h)

theorem g_callSi {me' : gs_M} {index a : Nat} {av : List Value} {post : Int32 → gs_S → Prop} (d : decode me.2.1 pc = .ok (.invokestatic index, 3)) (hY : gY me' a) (hL : Cond.methodLink me.1.cls index me'.1 ∈ gw) (hI : Cond.static me'.1 ∈ gw) (ha : av.length = a) (h8 : (rest.map fun x => x.category).sum ≤ 8) (hst : st = av.reverse ++ rest) (hM : gM l v ly N me' n av σ (qI v ly N post)) (k : ∀ (r : Int32) (σ' : gs_S), post r σ' → gG l v ly N me n Qf (pc + 3) L (.int r :: rest) σ') : gG l v ly N me n Qf pc L st σ := by
  intro p e s m args below meth c A hC ls H locs hl hP hS
  have hD := hC.2.2.2.2.2.2.1 σ
  have hF := g_free hD hC.2.2.2.2.2.2.2.1 hS
  have hts := hC.2.2.2.2.1
  refine va_calli (va_runS (As := av) (rest := rest) ⟨hC.1, hC.2.1, hC.2.2.1, hC.2.2.2.1, hts⟩ (hM H.size) ⟨g_B hY hts hL, hts _ hI⟩ ⟨g_blind, g_pre hC.2.2.2.2.2.1 hP hD⟩ rfl ha hl.1 hst (lv_room h8) d ⟨Nat.le_refl _, Nat.le_refl _⟩) hS (fun q _ h => hF q h) hF (fun r u t H1 locs1 ht hvm hp hB hz1 hk1 hS1 => ?_)
  rw [ht] at hB
  exact k r u hp p e s m args below meth c A hC ls H1 locs1 hl hB hS1
theorem g_callSl {me' : gs_M} {index a : Nat} {av : List Value} {post : Int64 → gs_S → Prop} (d : decode me.2.1 pc = .ok (.invokestatic index, 3)) (hY : gY me' a) (hL : Cond.methodLink me.1.cls index me'.1 ∈ gw) (hI : Cond.static me'.1 ∈ gw) (ha : av.length = a) (h8 : (rest.map fun x => x.category).sum ≤ 8) (hst : st = av.reverse ++ rest) (hM : gM l v ly N me' n av σ (qL v ly N post)) (k : ∀ (r : Int64) (σ' : gs_S), post r σ' → gG l v ly N me n Qf (pc + 3) L (.long r :: rest) σ') : gG l v ly N me n Qf pc L st σ := by
  intro p e s m args below meth c A hC ls H locs hl hP hS
  have hD := hC.2.2.2.2.2.2.1 σ
  have hF := g_free hD hC.2.2.2.2.2.2.2.1 hS
  have hts := hC.2.2.2.2.1
  refine va_calll (va_runS (As := av) (rest := rest) ⟨hC.1, hC.2.1, hC.2.2.1, hC.2.2.2.1, hts⟩ (hM H.size) ⟨g_B hY hts hL, hts _ hI⟩ ⟨g_blind, g_pre hC.2.2.2.2.2.1 hP hD⟩ rfl ha hl.1 hst (lv_room h8) d ⟨Nat.le_refl _, Nat.le_refl _⟩) hS (fun q _ h => hF q h) hF (fun r u t H1 locs1 ht hvm hp hB hz1 hk1 hS1 => ?_)
  rw [ht] at hB
  exact k r u hp p e s m args below meth c A hC ls H1 locs1 hl hB hS1
theorem g_callSv {me' : gs_M} {index a : Nat} {av : List Value} {post : gs_S → Prop} (d : decode me.2.1 pc = .ok (.invokestatic index, 3)) (hY : gY me' a) (hL : Cond.methodLink me.1.cls index me'.1 ∈ gw) (hI : Cond.static me'.1 ∈ gw) (ha : av.length = a) (h8 : (rest.map fun x => x.category).sum ≤ 8) (hst : st = av.reverse ++ rest) (hM : gM l v ly N me' n av σ (qV v ly N post)) (k : ∀ (σ' : gs_S), post σ' → gG l v ly N me n Qf (pc + 3) L rest σ') : gG l v ly N me n Qf pc L st σ := by
  intro p e s m args below meth c A hC ls H locs hl hP hS
  have hD := hC.2.2.2.2.2.2.1 σ
  have hF := g_free hD hC.2.2.2.2.2.2.2.1 hS
  have hts := hC.2.2.2.2.1
  refine va_callv (va_runS (As := av) (rest := rest) ⟨hC.1, hC.2.1, hC.2.2.1, hC.2.2.2.1, hts⟩ (hM H.size) ⟨g_B hY hts hL, hts _ hI⟩ ⟨g_blind, g_pre hC.2.2.2.2.2.1 hP hD⟩ rfl ha hl.1 hst (lv_room h8) d ⟨Nat.le_refl _, Nat.le_refl _⟩) hS (fun q _ h => hF q h) hF (fun u t H1 locs1 ht hvm hp hB hz1 hk1 hS1 => ?_)
  rw [ht] at hB
  exact k u hp p e s m args below meth c A hC ls H1 locs1 hl hB hS1
theorem g_callSNi {me' : gs_M} {index a : Nat} {av : List Value} {post : Int32 → gs_S → Prop} (d : decode me.2.1 pc = .ok (.invokestatic index, 3)) (hY : gY me' a) {host : String} (hL : (me.1.cls, index, me'.1, host) ∈ gw_n) (hI : Cond.static me'.1 ∈ gw) (ha : av.length = a) (h8 : (rest.map fun x => x.category).sum ≤ 8) (hst : st = av.reverse ++ rest) (hM : gM l v ly N me' n av σ (qI v ly N post)) (k : ∀ (r : Int32) (σ' : gs_S), post r σ' → gG l v ly N me n Qf (pc + 3) L (.int r :: rest) σ') : gG l v ly N me n Qf pc L st σ := by
  intro p e s m args below meth c A hC ls H locs hl hP hS
  have hD := hC.2.2.2.2.2.2.1 σ
  have hF := g_free hD hC.2.2.2.2.2.2.2.1 hS
  have hts := hC.2.2.2.2.1
  refine va_calli (va_runSN (As := av) (rest := rest) ⟨hC.1, hC.2.1, hC.2.2.1, hC.2.2.2.1, hts⟩ (hM H.size) ⟨g_N hY hts (hC.2.2.2.2.2.1.2.1 _ hL), hts _ hI, trivial⟩ ⟨g_blind, g_pre hC.2.2.2.2.2.1 hP hD⟩ rfl ha hl.1 hst (lv_room h8) d ⟨Nat.le_refl _, Nat.le_refl _⟩) hS (fun q _ h => hF q h) hF (fun r u t H1 locs1 ht hvm hp hB hz1 hk1 hS1 => ?_)
  rw [ht] at hB
  exact k r u hp p e s m args below meth c A hC ls H1 locs1 hl hB hS1
theorem g_callSNl {me' : gs_M} {index a : Nat} {av : List Value} {post : Int64 → gs_S → Prop} (d : decode me.2.1 pc = .ok (.invokestatic index, 3)) (hY : gY me' a) {host : String} (hL : (me.1.cls, index, me'.1, host) ∈ gw_n) (hI : Cond.static me'.1 ∈ gw) (ha : av.length = a) (h8 : (rest.map fun x => x.category).sum ≤ 8) (hst : st = av.reverse ++ rest) (hM : gM l v ly N me' n av σ (qL v ly N post)) (k : ∀ (r : Int64) (σ' : gs_S), post r σ' → gG l v ly N me n Qf (pc + 3) L (.long r :: rest) σ') : gG l v ly N me n Qf pc L st σ := by
  intro p e s m args below meth c A hC ls H locs hl hP hS
  have hD := hC.2.2.2.2.2.2.1 σ
  have hF := g_free hD hC.2.2.2.2.2.2.2.1 hS
  have hts := hC.2.2.2.2.1
  refine va_calll (va_runSN (As := av) (rest := rest) ⟨hC.1, hC.2.1, hC.2.2.1, hC.2.2.2.1, hts⟩ (hM H.size) ⟨g_N hY hts (hC.2.2.2.2.2.1.2.1 _ hL), hts _ hI, trivial⟩ ⟨g_blind, g_pre hC.2.2.2.2.2.1 hP hD⟩ rfl ha hl.1 hst (lv_room h8) d ⟨Nat.le_refl _, Nat.le_refl _⟩) hS (fun q _ h => hF q h) hF (fun r u t H1 locs1 ht hvm hp hB hz1 hk1 hS1 => ?_)
  rw [ht] at hB
  exact k r u hp p e s m args below meth c A hC ls H1 locs1 hl hB hS1
theorem g_callSNv {me' : gs_M} {index a : Nat} {av : List Value} {post : gs_S → Prop} (d : decode me.2.1 pc = .ok (.invokestatic index, 3)) (hY : gY me' a) {host : String} (hL : (me.1.cls, index, me'.1, host) ∈ gw_n) (hI : Cond.static me'.1 ∈ gw) (ha : av.length = a) (h8 : (rest.map fun x => x.category).sum ≤ 8) (hst : st = av.reverse ++ rest) (hM : gM l v ly N me' n av σ (qV v ly N post)) (k : ∀ (σ' : gs_S), post σ' → gG l v ly N me n Qf (pc + 3) L rest σ') : gG l v ly N me n Qf pc L st σ := by
  intro p e s m args below meth c A hC ls H locs hl hP hS
  have hD := hC.2.2.2.2.2.2.1 σ
  have hF := g_free hD hC.2.2.2.2.2.2.2.1 hS
  have hts := hC.2.2.2.2.1
  refine va_callv (va_runSN (As := av) (rest := rest) ⟨hC.1, hC.2.1, hC.2.2.1, hC.2.2.2.1, hts⟩ (hM H.size) ⟨g_N hY hts (hC.2.2.2.2.2.1.2.1 _ hL), hts _ hI, trivial⟩ ⟨g_blind, g_pre hC.2.2.2.2.2.1 hP hD⟩ rfl ha hl.1 hst (lv_room h8) d ⟨Nat.le_refl _, Nat.le_refl _⟩) hS (fun q _ h => hF q h) hF (fun u t H1 locs1 ht hvm hp hB hz1 hk1 hS1 => ?_)
  rw [ht] at hB
  exact k u hp p e s m args below meth c A hC ls H1 locs1 hl hB hS1
theorem g_callVi {me' : gs_M} {index a : Nat} {av : List Value} {q ci : Nat} {fds : List Nat} {post : Int32 → gs_S → Prop} (d : decode me.2.1 pc = .ok (.invokevirtual index, 3)) (hY : gY me' a) (hL : Cond.methodLink me.1.cls index me'.1 ∈ gw) (hq : q < N) (hy : ly q = .inr (ci, fds)) (hc : (vwCl[ci]?).map (fun x => x.1) = some me'.1.cls) (hI : Cond.instanceMethod me'.1 ∈ gw ∧ Cond.selects me'.1.cls me'.1 me'.1 ∈ gw) (ha : av.length = a) (h8 : (rest.map fun x => x.category).sum ≤ 8) (hst : st = av.reverse ++ .ref (v.2.2 q) :: rest) (hM : gM l v ly N me' n (.ref (v.2.2 q) :: av) σ (qI v ly N post)) (k : ∀ (r : Int32) (σ' : gs_S), post r σ' → gG l v ly N me n Qf (pc + 3) L (.int r :: rest) σ') : gG l v ly N me n Qf pc L st σ := by
  intro p e s m args below meth c A hC ls H locs hl hP hS
  have hD := hC.2.2.2.2.2.2.1 σ
  have hF := g_free hD hC.2.2.2.2.2.2.2.1 hS
  have hts := hC.2.2.2.2.1
  obtain ⟨⟨C, T, M⟩, hc1, hc2⟩ := Option.map_eq_some_iff.mp hc
  have hrv := va_recv hC.2.2.2.2.2.1.1 hP hc1 (gs_ob hq hy)
  rw [hc2] at hrv
  refine va_calli (va_runV (As := av) (rest := rest) (C := me'.1.cls) (b := v.2.2 q) ⟨hC.1, hC.2.1, hC.2.2.1, hC.2.2.2.1, hts⟩ (hM H.size) ⟨g_B hY hts hL, hts _ hI.1, hts _ hI.2⟩ ⟨g_blind, hrv, g_pre hC.2.2.2.2.2.1 hP hD⟩ rfl ha hl.1 hst (lv_room h8) d ⟨Nat.le_refl _, Nat.le_refl _⟩) hS (fun q _ h => hF q h) hF (fun r u t H1 locs1 ht hvm hp hB hz1 hk1 hS1 => ?_)
  rw [ht] at hB
  exact k r u hp p e s m args below meth c A hC ls H1 locs1 hl hB hS1
theorem g_callVl {me' : gs_M} {index a : Nat} {av : List Value} {q ci : Nat} {fds : List Nat} {post : Int64 → gs_S → Prop} (d : decode me.2.1 pc = .ok (.invokevirtual index, 3)) (hY : gY me' a) (hL : Cond.methodLink me.1.cls index me'.1 ∈ gw) (hq : q < N) (hy : ly q = .inr (ci, fds)) (hc : (vwCl[ci]?).map (fun x => x.1) = some me'.1.cls) (hI : Cond.instanceMethod me'.1 ∈ gw ∧ Cond.selects me'.1.cls me'.1 me'.1 ∈ gw) (ha : av.length = a) (h8 : (rest.map fun x => x.category).sum ≤ 8) (hst : st = av.reverse ++ .ref (v.2.2 q) :: rest) (hM : gM l v ly N me' n (.ref (v.2.2 q) :: av) σ (qL v ly N post)) (k : ∀ (r : Int64) (σ' : gs_S), post r σ' → gG l v ly N me n Qf (pc + 3) L (.long r :: rest) σ') : gG l v ly N me n Qf pc L st σ := by
  intro p e s m args below meth c A hC ls H locs hl hP hS
  have hD := hC.2.2.2.2.2.2.1 σ
  have hF := g_free hD hC.2.2.2.2.2.2.2.1 hS
  have hts := hC.2.2.2.2.1
  obtain ⟨⟨C, T, M⟩, hc1, hc2⟩ := Option.map_eq_some_iff.mp hc
  have hrv := va_recv hC.2.2.2.2.2.1.1 hP hc1 (gs_ob hq hy)
  rw [hc2] at hrv
  refine va_calll (va_runV (As := av) (rest := rest) (C := me'.1.cls) (b := v.2.2 q) ⟨hC.1, hC.2.1, hC.2.2.1, hC.2.2.2.1, hts⟩ (hM H.size) ⟨g_B hY hts hL, hts _ hI.1, hts _ hI.2⟩ ⟨g_blind, hrv, g_pre hC.2.2.2.2.2.1 hP hD⟩ rfl ha hl.1 hst (lv_room h8) d ⟨Nat.le_refl _, Nat.le_refl _⟩) hS (fun q _ h => hF q h) hF (fun r u t H1 locs1 ht hvm hp hB hz1 hk1 hS1 => ?_)
  rw [ht] at hB
  exact k r u hp p e s m args below meth c A hC ls H1 locs1 hl hB hS1
theorem g_callVv {me' : gs_M} {index a : Nat} {av : List Value} {q ci : Nat} {fds : List Nat} {post : gs_S → Prop} (d : decode me.2.1 pc = .ok (.invokevirtual index, 3)) (hY : gY me' a) (hL : Cond.methodLink me.1.cls index me'.1 ∈ gw) (hq : q < N) (hy : ly q = .inr (ci, fds)) (hc : (vwCl[ci]?).map (fun x => x.1) = some me'.1.cls) (hI : Cond.instanceMethod me'.1 ∈ gw ∧ Cond.selects me'.1.cls me'.1 me'.1 ∈ gw) (ha : av.length = a) (h8 : (rest.map fun x => x.category).sum ≤ 8) (hst : st = av.reverse ++ .ref (v.2.2 q) :: rest) (hM : gM l v ly N me' n (.ref (v.2.2 q) :: av) σ (qV v ly N post)) (k : ∀ (σ' : gs_S), post σ' → gG l v ly N me n Qf (pc + 3) L rest σ') : gG l v ly N me n Qf pc L st σ := by
  intro p e s m args below meth c A hC ls H locs hl hP hS
  have hD := hC.2.2.2.2.2.2.1 σ
  have hF := g_free hD hC.2.2.2.2.2.2.2.1 hS
  have hts := hC.2.2.2.2.1
  obtain ⟨⟨C, T, M⟩, hc1, hc2⟩ := Option.map_eq_some_iff.mp hc
  have hrv := va_recv hC.2.2.2.2.2.1.1 hP hc1 (gs_ob hq hy)
  rw [hc2] at hrv
  refine va_callv (va_runV (As := av) (rest := rest) (C := me'.1.cls) (b := v.2.2 q) ⟨hC.1, hC.2.1, hC.2.2.1, hC.2.2.2.1, hts⟩ (hM H.size) ⟨g_B hY hts hL, hts _ hI.1, hts _ hI.2⟩ ⟨g_blind, hrv, g_pre hC.2.2.2.2.2.1 hP hD⟩ rfl ha hl.1 hst (lv_room h8) d ⟨Nat.le_refl _, Nat.le_refl _⟩) hS (fun q _ h => hF q h) hF (fun u t H1 locs1 ht hvm hp hB hz1 hk1 hS1 => ?_)
  rw [ht] at hB
  exact k u hp p e s m args below meth c A hC ls H1 locs1 hl hB hS1
theorem g_callVNi {me' : gs_M} {index a : Nat} {av : List Value} {q ci : Nat} {fds : List Nat} {post : Int32 → gs_S → Prop} (d : decode me.2.1 pc = .ok (.invokevirtual index, 3)) (hY : gY me' a) {host : String} (hL : (me.1.cls, index, me'.1, host) ∈ gw_n) (hq : q < N) (hy : ly q = .inr (ci, fds)) (hc : (vwCl[ci]?).map (fun x => x.1) = some me'.1.cls) (hI : Cond.instanceMethod me'.1 ∈ gw ∧ Cond.selects me'.1.cls me'.1 me'.1 ∈ gw) (ha : av.length = a) (h8 : (rest.map fun x => x.category).sum ≤ 8) (hst : st = av.reverse ++ .ref (v.2.2 q) :: rest) (hM : gM l v ly N me' n (.ref (v.2.2 q) :: av) σ (qI v ly N post)) (k : ∀ (r : Int32) (σ' : gs_S), post r σ' → gG l v ly N me n Qf (pc + 3) L (.int r :: rest) σ') : gG l v ly N me n Qf pc L st σ := by
  intro p e s m args below meth c A hC ls H locs hl hP hS
  have hD := hC.2.2.2.2.2.2.1 σ
  have hF := g_free hD hC.2.2.2.2.2.2.2.1 hS
  have hts := hC.2.2.2.2.1
  obtain ⟨⟨C, T, M⟩, hc1, hc2⟩ := Option.map_eq_some_iff.mp hc
  have hrv := va_recv hC.2.2.2.2.2.1.1 hP hc1 (gs_ob hq hy)
  rw [hc2] at hrv
  refine va_calli (va_runVN (As := av) (rest := rest) (C := me'.1.cls) (b := v.2.2 q) ⟨hC.1, hC.2.1, hC.2.2.1, hC.2.2.2.1, hts⟩ (hM H.size) ⟨g_N hY hts (hC.2.2.2.2.2.1.2.1 _ hL), hts _ hI.1, hts _ hI.2⟩ ⟨g_blind, hrv, g_pre hC.2.2.2.2.2.1 hP hD⟩ rfl ha hl.1 hst (lv_room h8) d ⟨Nat.le_refl _, Nat.le_refl _⟩) hS (fun q _ h => hF q h) hF (fun r u t H1 locs1 ht hvm hp hB hz1 hk1 hS1 => ?_)
  rw [ht] at hB
  exact k r u hp p e s m args below meth c A hC ls H1 locs1 hl hB hS1
theorem g_callVNl {me' : gs_M} {index a : Nat} {av : List Value} {q ci : Nat} {fds : List Nat} {post : Int64 → gs_S → Prop} (d : decode me.2.1 pc = .ok (.invokevirtual index, 3)) (hY : gY me' a) {host : String} (hL : (me.1.cls, index, me'.1, host) ∈ gw_n) (hq : q < N) (hy : ly q = .inr (ci, fds)) (hc : (vwCl[ci]?).map (fun x => x.1) = some me'.1.cls) (hI : Cond.instanceMethod me'.1 ∈ gw ∧ Cond.selects me'.1.cls me'.1 me'.1 ∈ gw) (ha : av.length = a) (h8 : (rest.map fun x => x.category).sum ≤ 8) (hst : st = av.reverse ++ .ref (v.2.2 q) :: rest) (hM : gM l v ly N me' n (.ref (v.2.2 q) :: av) σ (qL v ly N post)) (k : ∀ (r : Int64) (σ' : gs_S), post r σ' → gG l v ly N me n Qf (pc + 3) L (.long r :: rest) σ') : gG l v ly N me n Qf pc L st σ := by
  intro p e s m args below meth c A hC ls H locs hl hP hS
  have hD := hC.2.2.2.2.2.2.1 σ
  have hF := g_free hD hC.2.2.2.2.2.2.2.1 hS
  have hts := hC.2.2.2.2.1
  obtain ⟨⟨C, T, M⟩, hc1, hc2⟩ := Option.map_eq_some_iff.mp hc
  have hrv := va_recv hC.2.2.2.2.2.1.1 hP hc1 (gs_ob hq hy)
  rw [hc2] at hrv
  refine va_calll (va_runVN (As := av) (rest := rest) (C := me'.1.cls) (b := v.2.2 q) ⟨hC.1, hC.2.1, hC.2.2.1, hC.2.2.2.1, hts⟩ (hM H.size) ⟨g_N hY hts (hC.2.2.2.2.2.1.2.1 _ hL), hts _ hI.1, hts _ hI.2⟩ ⟨g_blind, hrv, g_pre hC.2.2.2.2.2.1 hP hD⟩ rfl ha hl.1 hst (lv_room h8) d ⟨Nat.le_refl _, Nat.le_refl _⟩) hS (fun q _ h => hF q h) hF (fun r u t H1 locs1 ht hvm hp hB hz1 hk1 hS1 => ?_)
  rw [ht] at hB
  exact k r u hp p e s m args below meth c A hC ls H1 locs1 hl hB hS1
theorem g_callVNv {me' : gs_M} {index a : Nat} {av : List Value} {q ci : Nat} {fds : List Nat} {post : gs_S → Prop} (d : decode me.2.1 pc = .ok (.invokevirtual index, 3)) (hY : gY me' a) {host : String} (hL : (me.1.cls, index, me'.1, host) ∈ gw_n) (hq : q < N) (hy : ly q = .inr (ci, fds)) (hc : (vwCl[ci]?).map (fun x => x.1) = some me'.1.cls) (hI : Cond.instanceMethod me'.1 ∈ gw ∧ Cond.selects me'.1.cls me'.1 me'.1 ∈ gw) (ha : av.length = a) (h8 : (rest.map fun x => x.category).sum ≤ 8) (hst : st = av.reverse ++ .ref (v.2.2 q) :: rest) (hM : gM l v ly N me' n (.ref (v.2.2 q) :: av) σ (qV v ly N post)) (k : ∀ (σ' : gs_S), post σ' → gG l v ly N me n Qf (pc + 3) L rest σ') : gG l v ly N me n Qf pc L st σ := by
  intro p e s m args below meth c A hC ls H locs hl hP hS
  have hD := hC.2.2.2.2.2.2.1 σ
  have hF := g_free hD hC.2.2.2.2.2.2.2.1 hS
  have hts := hC.2.2.2.2.1
  obtain ⟨⟨C, T, M⟩, hc1, hc2⟩ := Option.map_eq_some_iff.mp hc
  have hrv := va_recv hC.2.2.2.2.2.1.1 hP hc1 (gs_ob hq hy)
  rw [hc2] at hrv
  refine va_callv (va_runVN (As := av) (rest := rest) (C := me'.1.cls) (b := v.2.2 q) ⟨hC.1, hC.2.1, hC.2.2.1, hC.2.2.2.1, hts⟩ (hM H.size) ⟨g_N hY hts (hC.2.2.2.2.2.1.2.1 _ hL), hts _ hI.1, hts _ hI.2⟩ ⟨g_blind, hrv, g_pre hC.2.2.2.2.2.1 hP hD⟩ rfl ha hl.1 hst (lv_room h8) d ⟨Nat.le_refl _, Nat.le_refl _⟩) hS (fun q _ h => hF q h) hF (fun u t H1 locs1 ht hvm hp hB hz1 hk1 hS1 => ?_)
  rw [ht] at hB
  exact k u hp p e s m args below meth c A hC ls H1 locs1 hl hB hS1
theorem g_lcmp_eq {x y : Int64} {off : Int} {tgt : Nat} (d : decode me.2.1 pc = .ok (.lcmp, 1)) (d2 : decode me.2.1 (pc + 1) = .ok (.ifCond .eq off, 3)) (ht : ((pc + 1 : Nat) : Int) + off = (tgt : Int)) (kt : x = y → gG l v ly N me n Qf tgt L rest σ) (kf : ¬ x = y → gG l v ly N me n Qf (pc + 1 + 3) L rest σ) : gG l v ly N me n Qf pc L (.long y :: .long x :: rest) σ :=
  g_lcmp d (g_if_eq d2 ht (fun h => kt (g_cmp_eq.mp h)) (fun h => kf (fun z => h (g_cmp_eq.mpr z))))
theorem g_lcmp_ne {x y : Int64} {off : Int} {tgt : Nat} (d : decode me.2.1 pc = .ok (.lcmp, 1)) (d2 : decode me.2.1 (pc + 1) = .ok (.ifCond .ne off, 3)) (ht : ((pc + 1 : Nat) : Int) + off = (tgt : Int)) (kt : ¬ x = y → gG l v ly N me n Qf tgt L rest σ) (kf : x = y → gG l v ly N me n Qf (pc + 1 + 3) L rest σ) : gG l v ly N me n Qf pc L (.long y :: .long x :: rest) σ :=
  g_lcmp d (g_if_ne d2 ht (fun h => kt (fun z => h (g_cmp_eq.mpr z))) (fun h => kf (g_cmp_eq.mp h)))
theorem g_lcmp_lt {x y : Int64} {off : Int} {tgt : Nat} (d : decode me.2.1 pc = .ok (.lcmp, 1)) (d2 : decode me.2.1 (pc + 1) = .ok (.ifCond .lt off, 3)) (ht : ((pc + 1 : Nat) : Int) + off = (tgt : Int)) (kt : x < y → gG l v ly N me n Qf tgt L rest σ) (kf : ¬ x < y → gG l v ly N me n Qf (pc + 1 + 3) L rest σ) : gG l v ly N me n Qf pc L (.long y :: .long x :: rest) σ :=
  g_lcmp d (g_if_lt d2 ht (fun h => kt (g_cmp_lt.mp h)) (fun h => kf (fun z => h (g_cmp_lt.mpr z))))
theorem g_lcmp_ge {x y : Int64} {off : Int} {tgt : Nat} (d : decode me.2.1 pc = .ok (.lcmp, 1)) (d2 : decode me.2.1 (pc + 1) = .ok (.ifCond .ge off, 3)) (ht : ((pc + 1 : Nat) : Int) + off = (tgt : Int)) (kt : y ≤ x → gG l v ly N me n Qf tgt L rest σ) (kf : ¬ y ≤ x → gG l v ly N me n Qf (pc + 1 + 3) L rest σ) : gG l v ly N me n Qf pc L (.long y :: .long x :: rest) σ :=
  g_lcmp d (g_if_ge d2 ht (fun h => kt (g_cmp_ge.mp h)) (fun h => kf (fun z => h (g_cmp_ge.mpr z))))
theorem g_lcmp_gt {x y : Int64} {off : Int} {tgt : Nat} (d : decode me.2.1 pc = .ok (.lcmp, 1)) (d2 : decode me.2.1 (pc + 1) = .ok (.ifCond .gt off, 3)) (ht : ((pc + 1 : Nat) : Int) + off = (tgt : Int)) (kt : y < x → gG l v ly N me n Qf tgt L rest σ) (kf : ¬ y < x → gG l v ly N me n Qf (pc + 1 + 3) L rest σ) : gG l v ly N me n Qf pc L (.long y :: .long x :: rest) σ :=
  g_lcmp d (g_if_gt d2 ht (fun h => kt (g_cmp_gt.mp h)) (fun h => kf (fun z => h (g_cmp_gt.mpr z))))
theorem g_lcmp_le {x y : Int64} {off : Int} {tgt : Nat} (d : decode me.2.1 pc = .ok (.lcmp, 1)) (d2 : decode me.2.1 (pc + 1) = .ok (.ifCond .le off, 3)) (ht : ((pc + 1 : Nat) : Int) + off = (tgt : Int)) (kt : x ≤ y → gG l v ly N me n Qf tgt L rest σ) (kf : ¬ x ≤ y → gG l v ly N me n Qf (pc + 1 + 3) L rest σ) : gG l v ly N me n Qf pc L (.long y :: .long x :: rest) σ :=
  g_lcmp d (g_if_le d2 ht (fun h => kt (g_cmp_le.mp h)) (fun h => kf (fun z => h (g_cmp_le.mpr z))))
theorem g_cpw : nativeFrameWords "java/lang/System" "arraycopy" 5 + 11 ≤ 32 := by decide +kernel
theorem g_cpl (h8 : (rest.map fun x => x.category).sum ≤ 8) : (rest.map fun x => x.category).sum + (nativeFrameWords "java/lang/System" "arraycopy" 5 + 11) ≤ (gr_r (n + 1)).locals := by
  have h := g_cpw
  show _ ≤ 40 * (n + 1)
  omega
theorem g_copyi {index q0 q1 n0 n1 b0 b1 : Nat} {cnt : Int32} (d : decode me.2.1 pc = .ok (.invokestatic index, 3)) (hL : Cond.methodLink me.1.cls index arraycopyName ∈ gw) (hq0 : q0 < N) (hy0 : ly q0 = .inl (0, n0, b0)) (hq1 : q1 < N) (hy1 : ly q1 = .inl (0, n1, b1)) (h3 : ¬ cnt < 0) (h4 : cnt.toNatClampNeg ≤ n0) (h5 : cnt.toNatClampNeg ≤ n1) (h8 : (rest.map fun x => x.category).sum ≤ 8)
    (k : gG l v ly N me n Qf (pc + 3) L rest (gs_pA σ q1 (va_cpy (σ.1 q0) (σ.1 q1) 0 0 cnt.toNatClampNeg))) : gG l v ly N me n Qf pc L (.int cnt :: .int 0 :: .ref (v.2.2 q1) :: .int 0 :: .ref (v.2.2 q0) :: rest) σ := by
  intro p e s m args below meth c A hC ls H locs hl hP hS
  have h4' : (0 : Int32).toNatClampNeg + cnt.toNatClampNeg ≤ n0 := by rw [sb_cl0]; omega
  have h5' : (0 : Int32).toNatClampNeg + cnt.toNatClampNeg ≤ n1 := by rw [sb_cl0]; omega
  refine va_copyi hC.1 hC.2.1 (by rw [hC.2.2.1]; exact hl.1.symm) hC.2.2.2.1 (hC.2.2.2.2.1 _ hL) (hC.2.2.2.2.1 _ gw_cpn) (hC.2.2.2.2.1 _ gw_cps) (hC.2.2.2.2.1 _ gw_cpi) hC.2.2.2.2.2.1.1 hP (hC.2.2.2.2.2.2.1 σ) hS q0 q1 0 0 (gs_ai hq0 hy0) (gs_ai hq1 hy1) rfl rfl rfl (by decide) (by decide) h3 h4' h5' (fun _ _ => rfl) (Nat.succ_le_succ (Nat.zero_le _)) (g_cpl h8) d (fun H locs hP' hD' hS => ?_)
  rw [gs_set_A hy1 (by decide) (by decide)] at hP'
  exact k p e s m args below meth c A hC ls H locs hl hP' hS
theorem g_copyl {index q0 q1 n0 n1 b0 b1 : Nat} {cnt : Int32} (d : decode me.2.1 pc = .ok (.invokestatic index, 3)) (hL : Cond.methodLink me.1.cls index arraycopyName ∈ gw) (hq0 : q0 < N) (hy0 : ly q0 = .inl (1, n0, b0)) (hq1 : q1 < N) (hy1 : ly q1 = .inl (1, n1, b1)) (h3 : ¬ cnt < 0) (h4 : cnt.toNatClampNeg ≤ n0) (h5 : cnt.toNatClampNeg ≤ n1) (h8 : (rest.map fun x => x.category).sum ≤ 8)
    (k : gG l v ly N me n Qf (pc + 3) L rest (gs_pB σ q1 (va_cpy (σ.2.1 q0) (σ.2.1 q1) 0 0 cnt.toNatClampNeg))) : gG l v ly N me n Qf pc L (.int cnt :: .int 0 :: .ref (v.2.2 q1) :: .int 0 :: .ref (v.2.2 q0) :: rest) σ := by
  intro p e s m args below meth c A hC ls H locs hl hP hS
  have h4' : (0 : Int32).toNatClampNeg + cnt.toNatClampNeg ≤ n0 := by rw [sb_cl0]; omega
  have h5' : (0 : Int32).toNatClampNeg + cnt.toNatClampNeg ≤ n1 := by rw [sb_cl0]; omega
  refine va_copyl hC.1 hC.2.1 (by rw [hC.2.2.1]; exact hl.1.symm) hC.2.2.2.1 (hC.2.2.2.2.1 _ hL) (hC.2.2.2.2.1 _ gw_cpn) (hC.2.2.2.2.1 _ gw_cps) (hC.2.2.2.2.1 _ gw_cpi) hC.2.2.2.2.2.1.1 hP (hC.2.2.2.2.2.2.1 σ) hS q0 q1 1 1 (gs_al hq0 hy0) (gs_al hq1 hy1) rfl rfl rfl (by decide) (by decide) h3 h4' h5' (fun _ _ => rfl) (Nat.succ_le_succ (Nat.zero_le _)) (g_cpl h8) d (fun H locs hP' hD' hS => ?_)
  rw [gs_set_B hy1] at hP'
  exact k p e s m args below meth c A hC ls H locs hl hP' hS
theorem g_lookup {dflt : Int} {ps : Array (Int × Int)} {len : Nat} {x : Int32} {off : Int} {tgt : Nat} (d : decode me.2.1 pc = .ok (.lookupswitch dflt ps, len)) (hp : (ps.toList.zip (ps.toList.drop 1)).all (fun (a, next) => a.1 < next.1) = true) (ho : Op.lookupswitch.offset ps.toList dflt x.toInt = off) (ht : (pc : Int) + off = (tgt : Int)) (k : gG l v ly N me n Qf tgt L rest σ) : gG l v ly N me n Qf pc L (.int x :: rest) σ :=
  fun p e s m args below meth c A hC ls H locs hl hP hS => lv_lookup hC.1 hC.2.1 d hp ho ht (k p e s m args below meth c A hC ls H locs hl hP hS)

end GR
