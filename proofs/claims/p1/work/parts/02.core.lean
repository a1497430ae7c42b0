/-! Java's own operations -/
def jR (x y : Int32) : Int32 := x - x / y * y
def jRL (x y : Int64) : Int64 := x - x / y * y
def jSI (x y : Int32) : Int32 := x <<< (y &&& 31)
def jAI (x y : Int32) : Int32 := x >>> (y &&& 31)
def jU (x : Int64) (y : Int32) : Int64 := (x.toUInt64 >>> (y.toInt64.toUInt64 &&& Int64.toUInt64 63)).toInt64
def jS (x : Int64) (y : Int32) : Int64 := x <<< (y.toInt64 &&& 63)
def jA (x : Int64) (y : Int32) : Int64 := x >>> (y.toInt64 &&& 63)
/-! The judgement that all walks are made with: a world of fixed shape (a layout), its contents a state of numbers. -/
-- a state: ints of an object's fields or an array's elements by (place, index); longs; the places that changing references name
abbrev gs_S : Type := (Nat → Nat → Int32) × (Nat → Nat → Int64) × (Nat → Nat → Nat)
-- a layout: a place is an array (kind, length, first place of its rows) or an object (class number, kinds of its fields)
abbrev gs_L : Type := Nat → (Nat × Nat × Nat) ⊕ (Nat × List Nat)
-- where: class ids and slots; ids of array classes by kind; addresses of places
abbrev gs_V : Type := va_G × (Nat → ClassId) × (Nat → Nat)
-- a method: name, code, locals, return
abbrev gs_M : Type := MethodName × ByteArray × Nat × Option FieldType
def gs_f (v : gs_V) (σ : gs_S) (k j : Nat) (fd : Nat) : Value := match fd with
  | 0 => .int (σ.1 k j)
  | 1 => .long (σ.2.1 k j)
  | 2 => .ref (v.2.2 (σ.2.2 k j))
  | q + 3 => .ref (v.2.2 q)
def gs_fs (v : gs_V) (σ : gs_S) (k : Nat) : Nat → List Nat → List Value
  | _, [] => []
  | j, fd :: r => gs_f v σ k j fd :: gs_fs v σ k (j + 1) r
def gs_a (v : gs_V) (σ : gs_S) (k t n b : Nat) : ClassId × vp_A := match t with
  | 1 => (v.2.1 1, n, .inr (.inl (σ.2.1 k)))
  | 4 => (v.2.1 4, n, .inr (.inr (.inr (.inr (fun i => some (v.2.2 (b + i)))))))
  | t => (v.2.1 t, n, .inl (σ.1 k))
def gs_e (v : gs_V) (ly : gs_L) (σ : gs_S) (k : Nat) : va_E := match ly k with
  | .inl x => .inl (gs_a v σ k x.1 x.2.1 x.2.2)
  | .inr x => .inr (x.1, gs_fs v σ k 0 x.2)
def gs_w (v : gs_V) (ly : gs_L) (N : Nat) (σ : gs_S) : va_W := (List.range N).map (fun k => (v.2.2 k, gs_e v ly σ k))
def gs_t (v : gs_V) : List (ClassId × FieldType) := [(v.2.1 0, .int), (v.2.1 1, .long), (v.2.1 2, .boolean), (v.2.1 3, .char), (v.2.1 4, .array .long)]
def gs_ty (t : Nat) : FieldType := match t with
  | 0 => .int
  | 1 => .long
  | 2 => .boolean
  | 3 => .char
  | _ => .array .long
-- writing
def gs_pI (σ : gs_S) (k j : Nat) (x : Int32) : gs_S := (va_up σ.1 k (upd (σ.1 k) j x), σ.2)
def gs_pL (σ : gs_S) (k j : Nat) (x : Int64) : gs_S := (σ.1, va_up σ.2.1 k (vp_updL (σ.2.1 k) j x), σ.2.2)
def gs_pR (σ : gs_S) (k j : Nat) (x : Nat) : gs_S := (σ.1, σ.2.1, va_up σ.2.2 k (va_up (σ.2.2 k) j x))
def gs_pA (σ : gs_S) (k : Nat) (f : Nat → Int32) : gs_S := (va_up σ.1 k f, σ.2)
def gs_pB (σ : gs_S) (k : Nat) (f : Nat → Int64) : gs_S := (σ.1, va_up σ.2.1 k f, σ.2.2)
theorem gs_w_get {v : gs_V} {ly : gs_L} {N : Nat} {σ : gs_S} {k : Nat} (h : k < N) : (gs_w v ly N σ)[k]? = some (v.2.2 k, gs_e v ly σ k) := by
  simp [gs_w, h]
theorem gs_w_len {v : gs_V} {ly : gs_L} {N : Nat} {σ : gs_S} : (gs_w v ly N σ).length = N := by simp [gs_w]
theorem gs_w_set {v : gs_V} {ly : gs_L} {N : Nat} {σ σ' : gs_S} {k : Nat} {e : va_E} (he : gs_e v ly σ' k = e) (ho : ∀ q, q ≠ k → gs_e v ly σ' q = gs_e v ly σ q) : (gs_w v ly N σ).set k (v.2.2 k, e) = gs_w v ly N σ' := by
  apply List.ext_getElem?
  intro i
  by_cases hi : i < N
  · rw [gs_w_get (σ := σ') hi]
    by_cases hk : i = k
    · subst hk
      rw [List.getElem?_set_self (by rw [gs_w_len]; exact hi), he]
    · rw [List.getElem?_set_ne (Ne.symm hk), gs_w_get hi, ho i hk]
  · rw [List.getElem?_eq_none (by rw [List.length_set, gs_w_len]; omega), List.getElem?_eq_none (by rw [gs_w_len]; omega)]
theorem gs_D {v : gs_V} {ly : gs_L} {N : Nat} {σ σ' : gs_S} {A : Nat → Prop} (h : va_D A (gs_w v ly N σ)) : va_D A (gs_w v ly N σ') := by
  have key : ∀ (i : Nat) (q : Nat × va_E), (gs_w v ly N σ')[i]? = some q → ∃ q0, (gs_w v ly N σ)[i]? = some q0 ∧ q0.1 = q.1 := by
    intro i q hq
    have hi : i < N := by
      have := (List.getElem?_eq_some_iff.mp hq).1
      rwa [gs_w_len] at this
    rw [gs_w_get hi] at hq
    cases hq
    exact ⟨_, gs_w_get hi, rfl⟩
  refine ⟨fun i j x y hi hj hxy => ?_, fun k q hk => ?_⟩
  · obtain ⟨x0, a1, a2⟩ := key i x hi
    obtain ⟨y0, b1, b2⟩ := key j y hj
    exact h.1 i j x0 y0 a1 b1 (a2.trans (hxy.trans b2.symm))
  · obtain ⟨q0, a1, a2⟩ := key k q hk
    rw [← a2]
    exact h.2 k q0 a1
theorem gs_A {v : gs_V} {ly : gs_L} {N : Nat} {σ σ' : gs_S} {sz : Nat} : va_A (gs_w v ly N σ) sz = va_A (gs_w v ly N σ') sz := by
  have key : ∀ (σ σ' : gs_S) (q : Nat), va_A (gs_w v ly N σ) sz q → va_A (gs_w v ly N σ') sz q := by
    intro σ σ' q h
    rcases h with ⟨k, e, h⟩ | h
    · have hi : k < N := by
        have := (List.getElem?_eq_some_iff.mp h).1
        rwa [gs_w_len] at this
      rw [gs_w_get hi] at h
      cases h
      exact Or.inl ⟨k, _, gs_w_get hi⟩
    · exact Or.inr h
  funext q
  exact propext ⟨key σ σ' q, key σ' σ q⟩
theorem gs_up1 {α : Type} {f : Nat → α} {k : Nat} {x : α} : va_up f k x k = x := va_up_self f k x
theorem gs_upn {α : Type} {f : Nat → α} {k q : Nat} {x : α} (h : q ≠ k) : va_up f k x q = f q := va_up_ne f x h
theorem gs_fs_congr {v : gs_V} {σ σ' : gs_S} {k : Nat} (h1 : σ'.1 k = σ.1 k) (h2 : σ'.2.1 k = σ.2.1 k) (h3 : σ'.2.2 k = σ.2.2 k) : ∀ (r : List Nat) (j : Nat), gs_fs v σ' k j r = gs_fs v σ k j r
  | [], _ => rfl
  | fd :: r, j => by
    rw [gs_fs, gs_fs, gs_fs_congr h1 h2 h3 r (j + 1)]
    congr 1
    unfold gs_f
    split
    · rw [h1]
    · rw [h2]
    · rw [h3]
    · rfl
theorem gs_e_congr {v : gs_V} {ly : gs_L} {σ σ' : gs_S} {k : Nat} (h1 : σ'.1 k = σ.1 k) (h2 : σ'.2.1 k = σ.2.1 k) (h3 : σ'.2.2 k = σ.2.2 k) : gs_e v ly σ' k = gs_e v ly σ k := by
  unfold gs_e
  split
  · unfold gs_a
    split
    · rw [h2]
    · rfl
    · rw [h1]
  · rw [gs_fs_congr h1 h2 h3]
theorem gs_fs_get {v : gs_V} {σ : gs_S} {k : Nat} : ∀ (r : List Nat) (j i : Nat) (fd : Nat), r[i]? = some fd → (gs_fs v σ k j r)[i]? = some (gs_f v σ k (j + i) fd)
  | [], _, _, _, h => by simp at h
  | fd :: r, j, 0, fd', h => by simp at h; subst h; simp [gs_fs]
  | fd :: r, j, i + 1, fd', h => by
    simp only [List.getElem?_cons_succ] at h
    rw [gs_fs, List.getElem?_cons_succ, gs_fs_get r (j + 1) i fd' h]
    congr 2
    omega
theorem gs_fs_len {v : gs_V} {σ : gs_S} {k : Nat} : ∀ (r : List Nat) (j : Nat), (gs_fs v σ k j r).length = r.length
  | [], _ => rfl
  | fd :: r, j => by rw [gs_fs, List.length_cons, List.length_cons, gs_fs_len r (j + 1)]
theorem gs_fs_set {v : gs_V} {σ σ' : gs_S} {k : Nat} {r : List Nat} {i fd : Nat} {x : Value} (h : r[i]? = some fd) (hx : gs_f v σ' k i fd = x) (ho : ∀ i' fd', i' ≠ i → r[i']? = some fd' → gs_f v σ' k i' fd' = gs_f v σ k i' fd') : (gs_fs v σ k 0 r).set i x = gs_fs v σ' k 0 r := by
  apply List.ext_getElem?
  intro i'
  cases hr : r[i']? with
  | none =>
    have hl : r.length ≤ i' := List.getElem?_eq_none_iff.mp hr
    rw [List.getElem?_eq_none (by rw [List.length_set, gs_fs_len]; exact hl), List.getElem?_eq_none (by rw [gs_fs_len]; exact hl)]
  | some fd' =>
    rw [gs_fs_get (σ := σ') r 0 i' fd' hr]
    by_cases e : i' = i
    · subst e
      rw [h] at hr
      cases hr
      rw [List.getElem?_set_self (by rw [gs_fs_len]; exact (List.getElem?_eq_some_iff.mp h).1), Nat.zero_add, hx]
    · rw [List.getElem?_set_ne (Ne.symm e), gs_fs_get r 0 i' fd' hr, Nat.zero_add, ho i' fd' e hr]
theorem gs_e_arr {v : gs_V} {ly : gs_L} {σ : gs_S} {k : Nat} {x : Nat × Nat × Nat} (h : ly k = .inl x) : gs_e v ly σ k = .inl (gs_a v σ k x.1 x.2.1 x.2.2) := by
  unfold gs_e
  rw [h]
theorem gs_e_obj {v : gs_V} {ly : gs_L} {σ : gs_S} {k : Nat} {x : Nat × List Nat} (h : ly k = .inr x) : gs_e v ly σ k = .inr (x.1, gs_fs v σ k 0 x.2) := by
  unfold gs_e
  rw [h]
theorem gs_ai {v : gs_V} {ly : gs_L} {N : Nat} {σ : gs_S} {k n b : Nat} (hk : k < N) (h : ly k = .inl (0, n, b)) : (gs_w v ly N σ)[k]? = some (v.2.2 k, .inl (v.2.1 0, n, .inl (σ.1 k))) := by
  rw [gs_w_get hk, gs_e_arr h]; rfl
theorem gs_al {v : gs_V} {ly : gs_L} {N : Nat} {σ : gs_S} {k n b : Nat} (hk : k < N) (h : ly k = .inl (1, n, b)) : (gs_w v ly N σ)[k]? = some (v.2.2 k, .inl (v.2.1 1, n, .inr (.inl (σ.2.1 k)))) := by
  rw [gs_w_get hk, gs_e_arr h]; rfl
theorem gs_az {v : gs_V} {ly : gs_L} {N : Nat} {σ : gs_S} {k n b : Nat} (hk : k < N) (h : ly k = .inl (2, n, b)) : (gs_w v ly N σ)[k]? = some (v.2.2 k, .inl (v.2.1 2, n, .inl (σ.1 k))) := by
  rw [gs_w_get hk, gs_e_arr h]; rfl
theorem gs_ac {v : gs_V} {ly : gs_L} {N : Nat} {σ : gs_S} {k n b : Nat} (hk : k < N) (h : ly k = .inl (3, n, b)) : (gs_w v ly N σ)[k]? = some (v.2.2 k, .inl (v.2.1 3, n, .inl (σ.1 k))) := by
  rw [gs_w_get hk, gs_e_arr h]; rfl
theorem gs_aq {v : gs_V} {ly : gs_L} {N : Nat} {σ : gs_S} {k n b : Nat} (hk : k < N) (h : ly k = .inl (4, n, b)) : (gs_w v ly N σ)[k]? = some (v.2.2 k, .inl (v.2.1 4, n, .inr (.inr (.inr (.inr (fun i => some (v.2.2 (b + i)))))))) := by
  rw [gs_w_get hk, gs_e_arr h]; rfl
theorem gs_ob {v : gs_V} {ly : gs_L} {N : Nat} {σ : gs_S} {k ci : Nat} {fds : List Nat} (hk : k < N) (h : ly k = .inr (ci, fds)) : (gs_w v ly N σ)[k]? = some (v.2.2 k, .inr (ci, gs_fs v σ k 0 fds)) := by
  rw [gs_w_get hk, gs_e_obj h]
-- what writing does to the world
theorem gs_set_A {v : gs_V} {ly : gs_L} {N : Nat} {σ : gs_S} {k t n b : Nat} (h : ly k = .inl (t, n, b)) (h1 : t ≠ 1) (h4 : t ≠ 4) (f : Nat → Int32) : (gs_w v ly N σ).set k (v.2.2 k, .inl (v.2.1 t, n, .inl f)) = gs_w v ly N (gs_pA σ k f) := by
  refine gs_w_set ?_ (fun q hq => ?_)
  · rw [gs_e_arr h]
    show Sum.inl (gs_a v (gs_pA σ k f) k t n b) = _
    unfold gs_a
    split
    · exact absurd rfl h1
    · exact absurd rfl h4
    · show Sum.inl (_, n, Sum.inl (va_up σ.1 k f k)) = _
      rw [gs_up1]
  · exact gs_e_congr (gs_upn hq) rfl rfl
theorem gs_set_B {v : gs_V} {ly : gs_L} {N : Nat} {σ : gs_S} {k n b : Nat} (h : ly k = .inl (1, n, b)) (f : Nat → Int64) : (gs_w v ly N σ).set k (v.2.2 k, .inl (v.2.1 1, n, .inr (.inl f))) = gs_w v ly N (gs_pB σ k f) := by
  refine gs_w_set ?_ (fun q hq => ?_)
  · rw [gs_e_arr h]
    show Sum.inl (_, n, Sum.inr (Sum.inl (va_up σ.2.1 k f k))) = _
    rw [gs_up1]
  · exact gs_e_congr rfl (gs_upn hq) rfl
theorem gs_set_I {v : gs_V} {ly : gs_L} {N : Nat} {σ : gs_S} {k ci j : Nat} {fds : List Nat} (h : ly k = .inr (ci, fds)) (hj : fds[j]? = some 0) (x : Int32) : (gs_w v ly N σ).set k (v.2.2 k, .inr (ci, (gs_fs v σ k 0 fds).set j (.int x))) = gs_w v ly N (gs_pI σ k j x) := by
  refine gs_w_set ?_ (fun q hq => ?_)
  · rw [gs_e_obj h]
    congr 2
    refine (gs_fs_set hj ?_ (fun i fd hi _ => ?_)).symm
    · show Value.int (va_up σ.1 k (upd (σ.1 k) j x) k j) = _
      rw [gs_up1, pk_us]
    · unfold gs_f
      split
      · show Value.int (va_up σ.1 k (upd (σ.1 k) j x) k i) = _
        rw [gs_up1, pk_un hi]
      · rfl
      · rfl
      · rfl
  · exact gs_e_congr (gs_upn hq) rfl rfl
theorem gs_set_J {v : gs_V} {ly : gs_L} {N : Nat} {σ : gs_S} {k ci j : Nat} {fds : List Nat} (h : ly k = .inr (ci, fds)) (hj : fds[j]? = some 1) (x : Int64) : (gs_w v ly N σ).set k (v.2.2 k, .inr (ci, (gs_fs v σ k 0 fds).set j (.long x))) = gs_w v ly N (gs_pL σ k j x) := by
  refine gs_w_set ?_ (fun q hq => ?_)
  · rw [gs_e_obj h]
    congr 2
    refine (gs_fs_set hj ?_ (fun i fd hi _ => ?_)).symm
    · show Value.long (va_up σ.2.1 k (vp_updL (σ.2.1 k) j x) k j) = _
      rw [gs_up1, pk_uLs]
    · unfold gs_f
      split
      · rfl
      · show Value.long (va_up σ.2.1 k (vp_updL (σ.2.1 k) j x) k i) = _
        rw [gs_up1, pk_uLn hi]
      · rfl
      · rfl
  · exact gs_e_congr rfl (gs_upn hq) rfl
theorem gs_set_R {v : gs_V} {ly : gs_L} {N : Nat} {σ : gs_S} {k ci j : Nat} {fds : List Nat} (h : ly k = .inr (ci, fds)) (hj : fds[j]? = some 2) (x : Nat) : (gs_w v ly N σ).set k (v.2.2 k, .inr (ci, (gs_fs v σ k 0 fds).set j (.ref (v.2.2 x)))) = gs_w v ly N (gs_pR σ k j x) := by
  refine gs_w_set ?_ (fun q hq => ?_)
  · rw [gs_e_obj h]
    congr 2
    refine (gs_fs_set hj ?_ (fun i fd hi _ => ?_)).symm
    · show Value.ref (v.2.2 (va_up σ.2.2 k (va_up (σ.2.2 k) j x) k j)) = _
      rw [gs_up1, gs_up1]
    · unfold gs_f
      split
      · rfl
      · rfl
      · show Value.ref (v.2.2 (va_up σ.2.2 k (va_up (σ.2.2 k) j x) k i)) = _
        rw [gs_up1, gs_upn hi]
      · rfl
  · exact gs_e_congr rfl rfl (gs_upn hq)
