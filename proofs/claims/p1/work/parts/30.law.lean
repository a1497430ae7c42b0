/-! The law: its judgement lG: the class's world, the reference's, the script. -/
def lA (s : State) : Nat → Prop := fun q => s.heap.size ≤ q
def lC (v1 v2 : gs_V) (b L : Nat) (xs : Nat → Int32) (p : Program) (s : State) (m : MethodId) (meth : Method) (c : Code) : Prop :=
  lw_At p s m meth c b L xs ∧ gs_K v1 s ∧ gs_K v2 s ∧ (∀ σ, va_D (lA s) (gs_w v1 lyC 42 σ)) ∧ (∀ σ, va_D (lA s) (gs_w v2 lyM 33 σ)) ∧ (∀ i, i < 42 → ∀ j, j < 33 → v1.2.2 i ≠ v2.2.2 j)
def lG (l : Launch) (v1 v2 : gs_V) (b L : Nat) (xs : Nat → Int32) (pc : Nat) (Lo : List (Nat × Value)) (st : List Value) (σ1 σ2 : gs_S) : Prop :=
  ∀ (p : Program) (e : Env) (s : State) (m : MethodId) (below : List Frame) (meth : Method) (c : Code), lC v1 v2 b L xs p s m meth c →
  ∀ (ls : Array Slot) (H : Heap) (locs : List Loc), lv_has ls 4 Lo → va_P v1.1 vwCl (gs_w v1 lyC 42 σ1) H → va_P v2.1 vwCl (gs_w v2 lyM 33 σ2) H → va_S (lA s) s.heap H locs →
  W p l e room_1 s m #[Value.ref b] below meth c H locs 75 12836 (lw_Z below #[Value.ref b] s) (F0 m pc ls st)
theorem lw_good {me : gs_M} (h : gs_h me ∈ gw) : GoodIn lw_tbl (gs_h me :: gw) := fun w hw => by
  rcases List.mem_cons.mp hw with rfl | hw
  · exact ⟨gw_lw _ h, gw_good _ h⟩
  · exact ⟨gw_lw _ hw, gw_good _ hw⟩
section LG
variable {l : Launch} {v1 v2 : gs_V} {b L : Nat} {xs : Nat → Int32} {pc : Nat} {Lo : List (Nat × Value)} {st rest : List Value} {σ1 σ2 : gs_S}
theorem l_iconst {z : Int} {x : Int32} (d : decode code pc = .ok (.iconst z, 1)) (hv : Int32.ofInt z = x) (k : lG l v1 v2 b L xs (pc + 1) Lo (.int x :: rest) σ1 σ2) : lG l v1 v2 b L xs pc Lo (rest) σ1 σ2 :=
  fun p e s m below meth c hC ls H locs hl hP1 hP2 hS => lv_iconst hC.1.1 hC.1.2.1 d hv (k p e s m below meth c hC ls H locs hl hP1 hP2 hS)
theorem l_bipush {z : Int} {x : Int32} (d : decode code pc = .ok (.bipush z, 2)) (hv : (Int8.ofInt z).toInt32 = x) (k : lG l v1 v2 b L xs (pc + 2) Lo (.int x :: rest) σ1 σ2) : lG l v1 v2 b L xs pc Lo (rest) σ1 σ2 :=
  fun p e s m below meth c hC ls H locs hl hP1 hP2 hS => lv_bipush hC.1.1 hC.1.2.1 d hv (k p e s m below meth c hC ls H locs hl hP1 hP2 hS)
theorem l_iadd {x y : Int32} (d : decode code pc = .ok (.iadd, 1))  (k : lG l v1 v2 b L xs (pc + 1) Lo (.int (x + y) :: rest) σ1 σ2) : lG l v1 v2 b L xs pc Lo (.int y :: .int x :: rest) σ1 σ2 :=
  fun p e s m below meth c hC ls H locs hl hP1 hP2 hS => lv_iadd hC.1.1 hC.1.2.1 d  (k p e s m below meth c hC ls H locs hl hP1 hP2 hS)
theorem l_isub {x y : Int32} (d : decode code pc = .ok (.isub, 1))  (k : lG l v1 v2 b L xs (pc + 1) Lo (.int (x - y) :: rest) σ1 σ2) : lG l v1 v2 b L xs pc Lo (.int y :: .int x :: rest) σ1 σ2 :=
  fun p e s m below meth c hC ls H locs hl hP1 hP2 hS => lv_isub hC.1.1 hC.1.2.1 d  (k p e s m below meth c hC ls H locs hl hP1 hP2 hS)
theorem l_iand {x y : Int32} (d : decode code pc = .ok (.iand, 1))  (k : lG l v1 v2 b L xs (pc + 1) Lo (.int (x &&& y) :: rest) σ1 σ2) : lG l v1 v2 b L xs pc Lo (.int y :: .int x :: rest) σ1 σ2 :=
  fun p e s m below meth c hC ls H locs hl hP1 hP2 hS => lv_iand hC.1.1 hC.1.2.1 d  (k p e s m below meth c hC ls H locs hl hP1 hP2 hS)
theorem l_lcmp {x y : Int64} (d : decode code pc = .ok (.lcmp, 1))  (k : lG l v1 v2 b L xs (pc + 1) Lo (.int (lg_cmp x y) :: rest) σ1 σ2) : lG l v1 v2 b L xs pc Lo (.long y :: .long x :: rest) σ1 σ2 :=
  fun p e s m below meth c hC ls H locs hl hP1 hP2 hS => W.lcmp hC.1.1 hC.1.2.1 d  (k p e s m below meth c hC ls H locs hl hP1 hP2 hS)
theorem l_pop {x : Int32} (d : decode code pc = .ok (.pop, 1))  (k : lG l v1 v2 b L xs (pc + 1) Lo (rest) σ1 σ2) : lG l v1 v2 b L xs pc Lo (.int x :: rest) σ1 σ2 :=
  fun p e s m below meth c hC ls H locs hl hP1 hP2 hS => lv_pop hC.1.1 hC.1.2.1 d rfl (k p e s m below meth c hC ls H locs hl hP1 hP2 hS)
theorem l_pop2 {x : Int64} (d : decode code pc = .ok (.pop2, 1))  (k : lG l v1 v2 b L xs (pc + 1) Lo (rest) σ1 σ2) : lG l v1 v2 b L xs pc Lo (.long x :: rest) σ1 σ2 :=
  fun p e s m below meth c hC ls H locs hl hP1 hP2 hS => lv_pop2_2 hC.1.1 hC.1.2.1 d rfl (k p e s m below meth c hC ls H locs hl hP1 hP2 hS)
theorem l_iload_n {z : Fin 4} {i : Nat} {x : Int32} (d : decode code pc = .ok (.iload_n z, 1)) (q : Nat) (hi : (z : Nat) = i) (hq : Lo[q]? = some (i, .int x)) (k : lG l v1 v2 b L xs (pc + 1) Lo (.int x :: rest) σ1 σ2) : lG l v1 v2 b L xs pc Lo rest σ1 σ2 :=
  fun p e s m below meth c hC ls H locs hl hP1 hP2 hS => lv_iload_n hC.1.1 hC.1.2.1 d hi (lv_at hl q hq) (k p e s m below meth c hC ls H locs hl hP1 hP2 hS)
theorem l_aload_n {z : Fin 4} {i : Nat} {x : Nat} (d : decode code pc = .ok (.aload_n z, 1)) (q : Nat) (hi : (z : Nat) = i) (hq : Lo[q]? = some (i, .ref x)) (k : lG l v1 v2 b L xs (pc + 1) Lo (.ref x :: rest) σ1 σ2) : lG l v1 v2 b L xs pc Lo rest σ1 σ2 :=
  fun p e s m below meth c hC ls H locs hl hP1 hP2 hS => lv_aload_n hC.1.1 hC.1.2.1 d hi (lv_at hl q hq) (k p e s m below meth c hC ls H locs hl hP1 hP2 hS)
theorem l_istore_n {z : Fin 4} {i : Nat} {x : Int32} {L' : List (Nat × Value)} (d : decode code pc = .ok (.istore_n z, 1)) (hi : (z : Nat) = i) (hn : i < 4) (hL : (i, Value.int x) :: Lo.filter (fun q => !(q.1 == i) && !(q.1 + 1 == i && q.2.category == 2)) = L') (k : lG l v1 v2 b L xs (pc + 1) L' rest σ1 σ2) : lG l v1 v2 b L xs pc Lo (.int x :: rest) σ1 σ2 :=
  fun p e s m below meth c hC ls H locs hl hP1 hP2 hS => lv_istore_n hC.1.1 hC.1.2.1 d hi hl hn hL (fun ls hl => k p e s m below meth c hC ls H locs hl hP1 hP2 hS)
theorem l_iinc {i : Nat} {z : Int} {x y : Int32} {L' : List (Nat × Value)} (d : decode code pc = .ok (.iinc i z, 3)) (q : Nat) (hq : Lo[q]? = some (i, .int x)) (hv : x + Int32.ofInt z = y) (hn : i < 4) (hL : (i, Value.int y) :: Lo.filter (fun q => !(q.1 == i) && !(q.1 + 1 == i && q.2.category == 2)) = L') (k : lG l v1 v2 b L xs (pc + 3) L' rest σ1 σ2) : lG l v1 v2 b L xs pc Lo rest σ1 σ2 :=
  fun p e s m below meth c hC ls H locs hl hP1 hP2 hS => lv_iinc hC.1.1 hC.1.2.1 d hl hq hv hn hL (fun ls hl => k p e s m below meth c hC ls H locs hl hP1 hP2 hS)
theorem l_sub {L' : List (Nat × Value)} (ks : List Nat) (hk : lv_pick Lo ks = L') (k : lG l v1 v2 b L xs pc L' st σ1 σ2) : lG l v1 v2 b L xs pc Lo st σ1 σ2 :=
  fun p e s m below meth c hC ls H locs hl hP1 hP2 hS => k p e s m below meth c hC ls H locs (lv_sub hl ks hk) hP1 hP2 hS
theorem l_goto {off : Int} {tgt : Nat} (d : decode code pc = .ok (.goto off, 3)) (ht : (pc : Int) + off = (tgt : Int)) (k : lG l v1 v2 b L xs tgt Lo st σ1 σ2) : lG l v1 v2 b L xs pc Lo st σ1 σ2 :=
  fun p e s m below meth c hC ls H locs hl hP1 hP2 hS => lv_goto hC.1.1 hC.1.2.1 d ht (k p e s m below meth c hC ls H locs hl hP1 hP2 hS)
theorem l_icmp_gt {x y : Int32} {off : Int} {tgt : Nat} (d : decode code pc = .ok (.if_icmp .gt off, 3)) (ht : (pc : Int) + off = (tgt : Int)) (kt : y < x → lG l v1 v2 b L xs tgt Lo rest σ1 σ2) (kf : ¬ y < x → lG l v1 v2 b L xs (pc + 3) Lo rest σ1 σ2) : lG l v1 v2 b L xs pc Lo (.int y :: .int x :: rest) σ1 σ2 :=
  fun p e s m below meth c hC ls H locs hl hP1 hP2 hS => lv_icmp_gt hC.1.1 hC.1.2.1 d ht (fun h => kt h p e s m below meth c hC ls H locs hl hP1 hP2 hS) (fun h => kf h p e s m below meth c hC ls H locs hl hP1 hP2 hS)
theorem l_icmp_eq {x y : Int32} {off : Int} {tgt : Nat} (d : decode code pc = .ok (.if_icmp .eq off, 3)) (ht : (pc : Int) + off = (tgt : Int)) (h : x = y) (kt : lG l v1 v2 b L xs tgt Lo rest σ1 σ2) : lG l v1 v2 b L xs pc Lo (.int y :: .int x :: rest) σ1 σ2 :=
  fun p e s m below meth c hC ls H locs hl hP1 hP2 hS => lv_icmp_eq hC.1.1 hC.1.2.1 d ht (fun _ => kt p e s m below meth c hC ls H locs hl hP1 hP2 hS) (fun q => absurd h q)
theorem l_if_eq {x : Int32} {off : Int} {tgt : Nat} (d : decode code pc = .ok (.ifCond .eq off, 3)) (ht : (pc : Int) + off = (tgt : Int)) (h : x = 0) (kt : lG l v1 v2 b L xs tgt Lo rest σ1 σ2) : lG l v1 v2 b L xs pc Lo (.int x :: rest) σ1 σ2 :=
  fun p e s m below meth c hC ls H locs hl hP1 hP2 hS => lv_if_eq hC.1.1 hC.1.2.1 d ht (fun _ => kt p e s m below meth c hC ls H locs hl hP1 hP2 hS) (fun q => absurd h q)
theorem l_slen (d : decode code pc = .ok (.arraylength, 1)) (k : lG l v1 v2 b L xs (pc + 1) Lo (.int (Int32.ofNat L) :: rest) σ1 σ2) : lG l v1 v2 b L xs pc Lo (.ref b :: rest) σ1 σ2 :=
  fun p e s m below meth c hC ls H locs hl hP1 hP2 hS => va_slen hC.1.1 hC.1.2.1 hC.1.2.2.2.2.2.2.1 hC.1.2.2.2.2.2.2.2.1 (fun h => Nat.lt_irrefl _ (Nat.lt_of_lt_of_le hC.1.2.2.2.2.2.2.2.1 h)) hS d (k p e s m below meth c hC ls H locs hl hP1 hP2 hS)
theorem l_sld {i : Int32} (d : decode code pc = .ok (.iaload, 1)) (hi : vp_in i L) (k : lG l v1 v2 b L xs (pc + 1) Lo (.int (xs i.toNatClampNeg) :: rest) σ1 σ2) : lG l v1 v2 b L xs pc Lo (.int i :: .ref b :: rest) σ1 σ2 :=
  fun p e s m below meth c hC ls H locs hl hP1 hP2 hS => va_sld hC.1.1 hC.1.2.1 hC.1.2.2.2.2.2.2.1 hC.1.2.2.2.2.2.2.2.1 (fun h => Nat.lt_irrefl _ (Nat.lt_of_lt_of_le hC.1.2.2.2.2.2.2.2.1 h)) hS hi d (k p e s m below meth c hC ls H locs hl hP1 hP2 hS)
theorem l_tabIn {dflt lo hi : Int} {offs : Array Int} {len : Nat} {x : Int32} {off : Int} {tgt : Nat} (d : decode code pc = .ok (.tableswitch dflt lo hi offs, len)) (h1 : ¬ x.toInt < lo) (h2 : ¬ hi < x.toInt) (ho : offs[(x.toInt - lo).toNat]? = some off) (ht : (pc : Int) + off = (tgt : Int)) (k : lG l v1 v2 b L xs tgt Lo rest σ1 σ2) : lG l v1 v2 b L xs pc Lo (.int x :: rest) σ1 σ2 :=
  fun p e s m below meth c hC ls H locs hl hP1 hP2 hS => lv_tableIn hC.1.1 hC.1.2.1 d h1 h2 ho ht (k p e s m below meth c hC ls H locs hl hP1 hP2 hS)
theorem l_tabOut {dflt lo hi : Int} {offs : Array Int} {len : Nat} {x : Int32} {tgt : Nat} (d : decode code pc = .ok (.tableswitch dflt lo hi offs, len)) (h : x.toInt < lo ∨ hi < x.toInt) (ht : (pc : Int) + dflt = (tgt : Int)) (k : lG l v1 v2 b L xs tgt Lo rest σ1 σ2) : lG l v1 v2 b L xs pc Lo (.int x :: rest) σ1 σ2 :=
  fun p e s m below meth c hC ls H locs hl hP1 hP2 hS => lv_tableOut hC.1.1 hC.1.2.1 d h ht (k p e s m below meth c hC ls H locs hl hP1 hP2 hS)
theorem l_ret (d : decode code pc = .ok (.ireturn, 1)) : lG l v1 v2 b L xs pc Lo [.int 1] σ1 σ2 :=
  fun p e s m below meth c hC ls H locs hl hP1 hP2 hS => va_forget hS.2.2 (W.widen (k := room_1.cells) (n := room_1.slots) (by decide +kernel) (by decide +kernel) (lw_ret hC.1.1 hC.1.2.1 hC.1.2.2.1 hC.1.2.2.2.2.2.2.2.2.1 d))
theorem l_callCi {me' : gs_M} {index a n ci : Nat} {fds : List Nat} {av : List Value} {post : Int32 → gs_S → Prop} (d : decode code pc = .ok (.invokevirtual index, 3)) (hY : gY me' a) (hL : Cond.methodLink R_law index me'.1 ∈ gw) (hy : lyC 0 = .inr (ci, fds)) (hc : (vwCl[ci]?).map (fun x => x.1) = some me'.1.cls) (hI : Cond.instanceMethod me'.1 ∈ gw ∧ Cond.selects me'.1.cls me'.1 me'.1 ∈ gw) (ha : av.length = a) (hn : n ≤ 2000) (h8 : (rest.map fun x => x.category).sum ≤ 8) (hst : st = av.reverse ++ .ref (v1.2.2 0) :: rest) (hM : gM l v1 lyC 42 me' n (.ref (v1.2.2 0) :: av) σ1 (qI v1 lyC 42 post)) (k : ∀ (r : Int32) (σ' : gs_S), post r σ' → lG l v1 v2 b L xs (pc + 3) Lo (.int r :: rest) σ' σ2) : lG l v1 v2 b L xs pc Lo st σ1 σ2 := by
  intro p e s m below meth c hC ls H locs hl hP1 hP2 hS
  have hD := hC.2.2.2.1 σ1
  have hF : ∀ x, va_A (gs_w v1 lyC 42 σ1) H.size x → lA s x := g_free hD (fun x hx => hx) hS
  have hts := hC.1.2.2.2.2.2.1
  obtain ⟨⟨C, T, M⟩, hc1, hc2⟩ := Option.map_eq_some_iff.mp hc
  have hrv := va_recv hC.2.1.1 hP1 hc1 (gs_ob (k := 0) (by decide) hy)
  rw [hc2] at hrv
  have cb : CallB room_1 s #[Value.ref b] R_law index me'.1 me'.2.1 me'.2.2.1 me'.2.2.2 (gs_h me' :: gw) (gr_r n) 0 0 a := callB_of a hts (lw_good hY.1) rfl rfl rfl (hts _ (gw_lw _ hY.2.1)) (hts _ (gw_lw _ hL)) hY.2.2.1 ⟨by show n + 1 ≤ 2048; omega, by have := hY.2.2.2; show 8 + (me'.2.2.1 + 11) + 40 * n ≤ 84000; omega⟩
  refine va_calli (va_runV (As := av) (rest := rest) (C := me'.1.cls) (b := v1.2.2 0) ⟨hC.1.1, hC.1.2.1, hC.1.2.2.2.1, hC.1.2.2.2.2.1, hts⟩ (hM H.size) ⟨cb, hts _ (gw_lw _ hI.1), hts _ (gw_lw _ hI.2)⟩ ⟨g_blind, hrv, g_pre hC.2.1 hP1 hD⟩ rfl ha hl.1 hst (lv_room h8) d ⟨by decide +kernel, by decide +kernel⟩) hS (fun x _ h => hF x h) hF (fun r u t H1 locs1 ht hvm hp hB hz1 hk1 hS1 => ?_)
  rw [ht] at hB
  have hO : va_P v2.1 vwCl (gs_w v2 lyM 33 σ2) H1 := hP2.kept (fun i x hx => by
    have hlt := (hP2 i x hx).lt
    have hi : i < 33 := by
      have := (List.getElem?_eq_some_iff.mp hx).1
      rwa [gs_w_len] at this
    rw [gs_w_get hi] at hx
    cases hx
    refine hk1 _ hlt (fun hA => ?_)
    rcases hA with ⟨j, e', hj⟩ | hA
    · have hj' : j < 42 := by
        have := (List.getElem?_eq_some_iff.mp hj).1
        rwa [gs_w_len] at this
      rw [gs_w_get hj'] at hj
      have e9 := congrArg (fun z : Option (Nat × va_E) => z.map Prod.fst) hj
      have e8 : v1.2.2 j = v2.2.2 i := Option.some.inj e9
      exact hC.2.2.2.2.2 j hj' i hi e8
    · exact Nat.lt_irrefl _ (Nat.lt_of_lt_of_le hlt hA))
  exact k r u hp p e s m below meth c hC ls H1 locs1 hl hB hO hS1
theorem l_callCl {me' : gs_M} {index a n ci : Nat} {fds : List Nat} {av : List Value} {post : Int64 → gs_S → Prop} (d : decode code pc = .ok (.invokevirtual index, 3)) (hY : gY me' a) (hL : Cond.methodLink R_law index me'.1 ∈ gw) (hy : lyC 0 = .inr (ci, fds)) (hc : (vwCl[ci]?).map (fun x => x.1) = some me'.1.cls) (hI : Cond.instanceMethod me'.1 ∈ gw ∧ Cond.selects me'.1.cls me'.1 me'.1 ∈ gw) (ha : av.length = a) (hn : n ≤ 2000) (h8 : (rest.map fun x => x.category).sum ≤ 8) (hst : st = av.reverse ++ .ref (v1.2.2 0) :: rest) (hM : gM l v1 lyC 42 me' n (.ref (v1.2.2 0) :: av) σ1 (qL v1 lyC 42 post)) (k : ∀ (r : Int64) (σ' : gs_S), post r σ' → lG l v1 v2 b L xs (pc + 3) Lo (.long r :: rest) σ' σ2) : lG l v1 v2 b L xs pc Lo st σ1 σ2 := by
  intro p e s m below meth c hC ls H locs hl hP1 hP2 hS
  have hD := hC.2.2.2.1 σ1
  have hF : ∀ x, va_A (gs_w v1 lyC 42 σ1) H.size x → lA s x := g_free hD (fun x hx => hx) hS
  have hts := hC.1.2.2.2.2.2.1
  obtain ⟨⟨C, T, M⟩, hc1, hc2⟩ := Option.map_eq_some_iff.mp hc
  have hrv := va_recv hC.2.1.1 hP1 hc1 (gs_ob (k := 0) (by decide) hy)
  rw [hc2] at hrv
  have cb : CallB room_1 s #[Value.ref b] R_law index me'.1 me'.2.1 me'.2.2.1 me'.2.2.2 (gs_h me' :: gw) (gr_r n) 0 0 a := callB_of a hts (lw_good hY.1) rfl rfl rfl (hts _ (gw_lw _ hY.2.1)) (hts _ (gw_lw _ hL)) hY.2.2.1 ⟨by show n + 1 ≤ 2048; omega, by have := hY.2.2.2; show 8 + (me'.2.2.1 + 11) + 40 * n ≤ 84000; omega⟩
  refine va_calll (va_runV (As := av) (rest := rest) (C := me'.1.cls) (b := v1.2.2 0) ⟨hC.1.1, hC.1.2.1, hC.1.2.2.2.1, hC.1.2.2.2.2.1, hts⟩ (hM H.size) ⟨cb, hts _ (gw_lw _ hI.1), hts _ (gw_lw _ hI.2)⟩ ⟨g_blind, hrv, g_pre hC.2.1 hP1 hD⟩ rfl ha hl.1 hst (lv_room h8) d ⟨by decide +kernel, by decide +kernel⟩) hS (fun x _ h => hF x h) hF (fun r u t H1 locs1 ht hvm hp hB hz1 hk1 hS1 => ?_)
  rw [ht] at hB
  have hO : va_P v2.1 vwCl (gs_w v2 lyM 33 σ2) H1 := hP2.kept (fun i x hx => by
    have hlt := (hP2 i x hx).lt
    have hi : i < 33 := by
      have := (List.getElem?_eq_some_iff.mp hx).1
      rwa [gs_w_len] at this
    rw [gs_w_get hi] at hx
    cases hx
    refine hk1 _ hlt (fun hA => ?_)
    rcases hA with ⟨j, e', hj⟩ | hA
    · have hj' : j < 42 := by
        have := (List.getElem?_eq_some_iff.mp hj).1
        rwa [gs_w_len] at this
      rw [gs_w_get hj'] at hj
      have e9 := congrArg (fun z : Option (Nat × va_E) => z.map Prod.fst) hj
      have e8 : v1.2.2 j = v2.2.2 i := Option.some.inj e9
      exact hC.2.2.2.2.2 j hj' i hi e8
    · exact Nat.lt_irrefl _ (Nat.lt_of_lt_of_le hlt hA))
  exact k r u hp p e s m below meth c hC ls H1 locs1 hl hB hO hS1
theorem l_callMi {me' : gs_M} {index a n ci : Nat} {fds : List Nat} {av : List Value} {post : Int32 → gs_S → Prop} (d : decode code pc = .ok (.invokevirtual index, 3)) (hY : gY me' a) (hL : Cond.methodLink R_law index me'.1 ∈ gw) (hy : lyM 0 = .inr (ci, fds)) (hc : (vwCl[ci]?).map (fun x => x.1) = some me'.1.cls) (hI : Cond.instanceMethod me'.1 ∈ gw ∧ Cond.selects me'.1.cls me'.1 me'.1 ∈ gw) (ha : av.length = a) (hn : n ≤ 2000) (h8 : (rest.map fun x => x.category).sum ≤ 8) (hst : st = av.reverse ++ .ref (v2.2.2 0) :: rest) (hM : gM l v2 lyM 33 me' n (.ref (v2.2.2 0) :: av) σ2 (qI v2 lyM 33 post)) (k : ∀ (r : Int32) (σ' : gs_S), post r σ' → lG l v1 v2 b L xs (pc + 3) Lo (.int r :: rest) σ1 σ') : lG l v1 v2 b L xs pc Lo st σ1 σ2 := by
  intro p e s m below meth c hC ls H locs hl hP1 hP2 hS
  have hD := hC.2.2.2.2.1 σ2
  have hF : ∀ x, va_A (gs_w v2 lyM 33 σ2) H.size x → lA s x := g_free hD (fun x hx => hx) hS
  have hts := hC.1.2.2.2.2.2.1
  obtain ⟨⟨C, T, M⟩, hc1, hc2⟩ := Option.map_eq_some_iff.mp hc
  have hrv := va_recv hC.2.2.1.1 hP2 hc1 (gs_ob (k := 0) (by decide) hy)
  rw [hc2] at hrv
  have cb : CallB room_1 s #[Value.ref b] R_law index me'.1 me'.2.1 me'.2.2.1 me'.2.2.2 (gs_h me' :: gw) (gr_r n) 0 0 a := callB_of a hts (lw_good hY.1) rfl rfl rfl (hts _ (gw_lw _ hY.2.1)) (hts _ (gw_lw _ hL)) hY.2.2.1 ⟨by show n + 1 ≤ 2048; omega, by have := hY.2.2.2; show 8 + (me'.2.2.1 + 11) + 40 * n ≤ 84000; omega⟩
  refine va_calli (va_runV (As := av) (rest := rest) (C := me'.1.cls) (b := v2.2.2 0) ⟨hC.1.1, hC.1.2.1, hC.1.2.2.2.1, hC.1.2.2.2.2.1, hts⟩ (hM H.size) ⟨cb, hts _ (gw_lw _ hI.1), hts _ (gw_lw _ hI.2)⟩ ⟨g_blind, hrv, g_pre hC.2.2.1 hP2 hD⟩ rfl ha hl.1 hst (lv_room h8) d ⟨by decide +kernel, by decide +kernel⟩) hS (fun x _ h => hF x h) hF (fun r u t H1 locs1 ht hvm hp hB hz1 hk1 hS1 => ?_)
  rw [ht] at hB
  have hO : va_P v1.1 vwCl (gs_w v1 lyC 42 σ1) H1 := hP1.kept (fun i x hx => by
    have hlt := (hP1 i x hx).lt
    have hi : i < 42 := by
      have := (List.getElem?_eq_some_iff.mp hx).1
      rwa [gs_w_len] at this
    rw [gs_w_get hi] at hx
    cases hx
    refine hk1 _ hlt (fun hA => ?_)
    rcases hA with ⟨j, e', hj⟩ | hA
    · have hj' : j < 33 := by
        have := (List.getElem?_eq_some_iff.mp hj).1
        rwa [gs_w_len] at this
      rw [gs_w_get hj'] at hj
      have e9 := congrArg (fun z : Option (Nat × va_E) => z.map Prod.fst) hj
      have e8 : v2.2.2 j = v1.2.2 i := Option.some.inj e9
      exact hC.2.2.2.2.2 i hi j hj' e8.symm
    · exact Nat.lt_irrefl _ (Nat.lt_of_lt_of_le hlt hA))
  exact k r u hp p e s m below meth c hC ls H1 locs1 hl hO hB hS1
theorem l_callMl {me' : gs_M} {index a n ci : Nat} {fds : List Nat} {av : List Value} {post : Int64 → gs_S → Prop} (d : decode code pc = .ok (.invokevirtual index, 3)) (hY : gY me' a) (hL : Cond.methodLink R_law index me'.1 ∈ gw) (hy : lyM 0 = .inr (ci, fds)) (hc : (vwCl[ci]?).map (fun x => x.1) = some me'.1.cls) (hI : Cond.instanceMethod me'.1 ∈ gw ∧ Cond.selects me'.1.cls me'.1 me'.1 ∈ gw) (ha : av.length = a) (hn : n ≤ 2000) (h8 : (rest.map fun x => x.category).sum ≤ 8) (hst : st = av.reverse ++ .ref (v2.2.2 0) :: rest) (hM : gM l v2 lyM 33 me' n (.ref (v2.2.2 0) :: av) σ2 (qL v2 lyM 33 post)) (k : ∀ (r : Int64) (σ' : gs_S), post r σ' → lG l v1 v2 b L xs (pc + 3) Lo (.long r :: rest) σ1 σ') : lG l v1 v2 b L xs pc Lo st σ1 σ2 := by
  intro p e s m below meth c hC ls H locs hl hP1 hP2 hS
  have hD := hC.2.2.2.2.1 σ2
  have hF : ∀ x, va_A (gs_w v2 lyM 33 σ2) H.size x → lA s x := g_free hD (fun x hx => hx) hS
  have hts := hC.1.2.2.2.2.2.1
  obtain ⟨⟨C, T, M⟩, hc1, hc2⟩ := Option.map_eq_some_iff.mp hc
  have hrv := va_recv hC.2.2.1.1 hP2 hc1 (gs_ob (k := 0) (by decide) hy)
  rw [hc2] at hrv
  have cb : CallB room_1 s #[Value.ref b] R_law index me'.1 me'.2.1 me'.2.2.1 me'.2.2.2 (gs_h me' :: gw) (gr_r n) 0 0 a := callB_of a hts (lw_good hY.1) rfl rfl rfl (hts _ (gw_lw _ hY.2.1)) (hts _ (gw_lw _ hL)) hY.2.2.1 ⟨by show n + 1 ≤ 2048; omega, by have := hY.2.2.2; show 8 + (me'.2.2.1 + 11) + 40 * n ≤ 84000; omega⟩
  refine va_calll (va_runV (As := av) (rest := rest) (C := me'.1.cls) (b := v2.2.2 0) ⟨hC.1.1, hC.1.2.1, hC.1.2.2.2.1, hC.1.2.2.2.2.1, hts⟩ (hM H.size) ⟨cb, hts _ (gw_lw _ hI.1), hts _ (gw_lw _ hI.2)⟩ ⟨g_blind, hrv, g_pre hC.2.2.1 hP2 hD⟩ rfl ha hl.1 hst (lv_room h8) d ⟨by decide +kernel, by decide +kernel⟩) hS (fun x _ h => hF x h) hF (fun r u t H1 locs1 ht hvm hp hB hz1 hk1 hS1 => ?_)
  rw [ht] at hB
  have hO : va_P v1.1 vwCl (gs_w v1 lyC 42 σ1) H1 := hP1.kept (fun i x hx => by
    have hlt := (hP1 i x hx).lt
    have hi : i < 42 := by
      have := (List.getElem?_eq_some_iff.mp hx).1
      rwa [gs_w_len] at this
    rw [gs_w_get hi] at hx
    cases hx
    refine hk1 _ hlt (fun hA => ?_)
    rcases hA with ⟨j, e', hj⟩ | hA
    · have hj' : j < 33 := by
        have := (List.getElem?_eq_some_iff.mp hj).1
        rwa [gs_w_len] at this
      rw [gs_w_get hj'] at hj
      have e9 := congrArg (fun z : Option (Nat × va_E) => z.map Prod.fst) hj
      have e8 : v2.2.2 j = v1.2.2 i := Option.some.inj e9
      exact hC.2.2.2.2.2 i hi j hj' e8.symm
    · exact Nat.lt_irrefl _ (Nat.lt_of_lt_of_le hlt hA))
  exact k r u hp p e s m below meth c hC ls H1 locs1 hl hO hB hS1
end LG
/-- a call of both, with the same arguments: the same answer, and what holds then -/
def lOi (l : Launch) (v1 v2 : gs_V) (n : Nat) (mc mm : gs_M) (as : List Value) (σ1 σ2 : gs_S) (Post : gs_S → gs_S → Prop) : Prop :=
  gM l v1 lyC 42 mc n (.ref (v1.2.2 0) :: as) σ1 (qI v1 lyC 42 (fun r σ1' => gM l v2 lyM 33 mm n (.ref (v2.2.2 0) :: as) σ2 (qI v2 lyM 33 (fun r' σ2' => r = r' ∧ Post σ1' σ2'))))
def lOl (l : Launch) (v1 v2 : gs_V) (n : Nat) (mc mm : gs_M) (as : List Value) (σ1 σ2 : gs_S) (Post : gs_S → gs_S → Prop) : Prop :=
  gM l v1 lyC 42 mc n (.ref (v1.2.2 0) :: as) σ1 (qL v1 lyC 42 (fun r σ1' => gM l v2 lyM 33 mm n (.ref (v2.2.2 0) :: as) σ2 (qL v2 lyM 33 (fun r' σ2' => r = r' ∧ Post σ1' σ2'))))
theorem d_L_0 : decode code 0 = .ok (.new 7, 3) := by decide +kernel
theorem d_L_3 : decode code 3 = .ok (.dup, 1) := by decide +kernel
theorem d_L_4 : decode code 4 = .ok (.invokespecial 9, 3) := by decide +kernel
theorem d_L_7 : decode code 7 = .ok (.astore_n 1, 1) := by decide +kernel
theorem d_L_8 : decode code 8 = .ok (.new 10, 3) := by decide +kernel
theorem d_L_11 : decode code 11 = .ok (.dup, 1) := by decide +kernel
theorem d_L_12 : decode code 12 = .ok (.invokespecial 12, 3) := by decide +kernel
theorem d_L_15 : decode code 15 = .ok (.astore_n 2, 1) := by decide +kernel
theorem d_L_16 : decode code 16 = .ok (.iconst 0, 1) := by decide +kernel
theorem d_L_17 : decode code 17 = .ok (.istore_n 3, 1) := by decide +kernel
theorem d_L_18 : decode code 18 = .ok (.iload_n 3, 1) := by decide +kernel
theorem d_L_19 : decode code 19 = .ok (.aload_n 0, 1) := by decide +kernel
theorem d_L_20 : decode code 20 = .ok (.arraylength, 1) := by decide +kernel
theorem d_L_21 : decode code 21 = .ok (.iconst 3, 1) := by decide +kernel
theorem d_L_22 : decode code 22 = .ok (.isub, 1) := by decide +kernel
theorem d_L_23 : decode code 23 = .ok (.if_icmp .gt 495, 3) := by decide +kernel
theorem d_L_26 : decode code 26 = .ok (.aload_n 0, 1) := by decide +kernel
theorem d_L_27 : decode code 27 = .ok (.iload_n 3, 1) := by decide +kernel
theorem d_L_28 : decode code 28 = .ok (.iaload, 1) := by decide +kernel
theorem d_L_29 : decode code 29 = .ok (.bipush 31, 2) := by decide +kernel
theorem d_L_31 : decode code 31 = .ok (.iand, 1) := by decide +kernel
theorem d_L_32 : decode code 32 = .ok (.tableswitch 480 0 18 #[92, 115, 128, 151, 174, 207, 230, 253, 276, 289, 302, 325, 348, 361, 394, 407, 430, 443, 466], 92) := by decide +kernel
theorem d_L_124 : decode code 124 = .ok (.aload_n 1, 1) := by decide +kernel
theorem d_L_125 : decode code 125 = .ok (.aload_n 0, 1) := by decide +kernel
theorem d_L_126 : decode code 126 = .ok (.iload_n 3, 1) := by decide +kernel
theorem d_L_127 : decode code 127 = .ok (.iconst 1, 1) := by decide +kernel
theorem d_L_128 : decode code 128 = .ok (.iadd, 1) := by decide +kernel
theorem d_L_129 : decode code 129 = .ok (.iaload, 1) := by decide +kernel
theorem d_L_130 : decode code 130 = .ok (.invokevirtual 13, 3) := by decide +kernel
theorem d_L_133 : decode code 133 = .ok (.aload_n 2, 1) := by decide +kernel
theorem d_L_134 : decode code 134 = .ok (.aload_n 0, 1) := by decide +kernel
theorem d_L_135 : decode code 135 = .ok (.iload_n 3, 1) := by decide +kernel
theorem d_L_136 : decode code 136 = .ok (.iconst 1, 1) := by decide +kernel
theorem d_L_137 : decode code 137 = .ok (.iadd, 1) := by decide +kernel
theorem d_L_138 : decode code 138 = .ok (.iaload, 1) := by decide +kernel
theorem d_L_139 : decode code 139 = .ok (.invokevirtual 17, 3) := by decide +kernel
theorem d_L_142 : decode code 142 = .ok (.if_icmp .eq 370, 3) := by decide +kernel
theorem d_L_145 : decode code 145 = .ok (.iconst 0, 1) := by decide +kernel
theorem d_L_146 : decode code 146 = .ok (.ireturn, 1) := by decide +kernel
theorem d_L_147 : decode code 147 = .ok (.aload_n 1, 1) := by decide +kernel
theorem d_L_148 : decode code 148 = .ok (.invokevirtual 18, 3) := by decide +kernel
theorem d_L_151 : decode code 151 = .ok (.aload_n 2, 1) := by decide +kernel
theorem d_L_152 : decode code 152 = .ok (.invokevirtual 22, 3) := by decide +kernel
theorem d_L_155 : decode code 155 = .ok (.if_icmp .eq 357, 3) := by decide +kernel
theorem d_L_158 : decode code 158 = .ok (.iconst 0, 1) := by decide +kernel
theorem d_L_159 : decode code 159 = .ok (.ireturn, 1) := by decide +kernel
theorem d_L_160 : decode code 160 = .ok (.aload_n 1, 1) := by decide +kernel
theorem d_L_161 : decode code 161 = .ok (.aload_n 0, 1) := by decide +kernel
theorem d_L_162 : decode code 162 = .ok (.iload_n 3, 1) := by decide +kernel
theorem d_L_163 : decode code 163 = .ok (.iconst 1, 1) := by decide +kernel
theorem d_L_164 : decode code 164 = .ok (.iadd, 1) := by decide +kernel
theorem d_L_165 : decode code 165 = .ok (.iaload, 1) := by decide +kernel
theorem d_L_166 : decode code 166 = .ok (.invokevirtual 23, 3) := by decide +kernel
theorem d_L_169 : decode code 169 = .ok (.aload_n 2, 1) := by decide +kernel
theorem d_L_170 : decode code 170 = .ok (.aload_n 0, 1) := by decide +kernel
theorem d_L_171 : decode code 171 = .ok (.iload_n 3, 1) := by decide +kernel
theorem d_L_172 : decode code 172 = .ok (.iconst 1, 1) := by decide +kernel
theorem d_L_173 : decode code 173 = .ok (.iadd, 1) := by decide +kernel
theorem d_L_174 : decode code 174 = .ok (.iaload, 1) := by decide +kernel
theorem d_L_175 : decode code 175 = .ok (.invokevirtual 26, 3) := by decide +kernel
theorem d_L_178 : decode code 178 = .ok (.if_icmp .eq 334, 3) := by decide +kernel
theorem d_L_181 : decode code 181 = .ok (.iconst 0, 1) := by decide +kernel
theorem d_L_182 : decode code 182 = .ok (.ireturn, 1) := by decide +kernel
theorem d_L_183 : decode code 183 = .ok (.aload_n 1, 1) := by decide +kernel
theorem d_L_184 : decode code 184 = .ok (.aload_n 0, 1) := by decide +kernel
theorem d_L_185 : decode code 185 = .ok (.iload_n 3, 1) := by decide +kernel
theorem d_L_186 : decode code 186 = .ok (.iconst 1, 1) := by decide +kernel
theorem d_L_187 : decode code 187 = .ok (.iadd, 1) := by decide +kernel
theorem d_L_188 : decode code 188 = .ok (.iaload, 1) := by decide +kernel
theorem d_L_189 : decode code 189 = .ok (.invokevirtual 27, 3) := by decide +kernel
theorem d_L_192 : decode code 192 = .ok (.aload_n 2, 1) := by decide +kernel
theorem d_L_193 : decode code 193 = .ok (.aload_n 0, 1) := by decide +kernel
theorem d_L_194 : decode code 194 = .ok (.iload_n 3, 1) := by decide +kernel
theorem d_L_195 : decode code 195 = .ok (.iconst 1, 1) := by decide +kernel
theorem d_L_196 : decode code 196 = .ok (.iadd, 1) := by decide +kernel
theorem d_L_197 : decode code 197 = .ok (.iaload, 1) := by decide +kernel
theorem d_L_198 : decode code 198 = .ok (.invokevirtual 30, 3) := by decide +kernel
theorem d_L_201 : decode code 201 = .ok (.if_icmp .eq 311, 3) := by decide +kernel
theorem d_L_204 : decode code 204 = .ok (.iconst 0, 1) := by decide +kernel
theorem d_L_205 : decode code 205 = .ok (.ireturn, 1) := by decide +kernel
theorem d_L_206 : decode code 206 = .ok (.aload_n 1, 1) := by decide +kernel
theorem d_L_207 : decode code 207 = .ok (.aload_n 0, 1) := by decide +kernel
theorem d_L_208 : decode code 208 = .ok (.iload_n 3, 1) := by decide +kernel
theorem d_L_209 : decode code 209 = .ok (.iconst 1, 1) := by decide +kernel
theorem d_L_210 : decode code 210 = .ok (.iadd, 1) := by decide +kernel
theorem d_L_211 : decode code 211 = .ok (.iaload, 1) := by decide +kernel
theorem d_L_212 : decode code 212 = .ok (.aload_n 0, 1) := by decide +kernel
theorem d_L_213 : decode code 213 = .ok (.iload_n 3, 1) := by decide +kernel
theorem d_L_214 : decode code 214 = .ok (.iconst 2, 1) := by decide +kernel
theorem d_L_215 : decode code 215 = .ok (.iadd, 1) := by decide +kernel
theorem d_L_216 : decode code 216 = .ok (.iaload, 1) := by decide +kernel
theorem d_L_217 : decode code 217 = .ok (.invokevirtual 31, 3) := by decide +kernel
theorem d_L_220 : decode code 220 = .ok (.aload_n 2, 1) := by decide +kernel
theorem d_L_221 : decode code 221 = .ok (.aload_n 0, 1) := by decide +kernel
theorem d_L_222 : decode code 222 = .ok (.iload_n 3, 1) := by decide +kernel
theorem d_L_223 : decode code 223 = .ok (.iconst 1, 1) := by decide +kernel
theorem d_L_224 : decode code 224 = .ok (.iadd, 1) := by decide +kernel
theorem d_L_225 : decode code 225 = .ok (.iaload, 1) := by decide +kernel
theorem d_L_226 : decode code 226 = .ok (.aload_n 0, 1) := by decide +kernel
theorem d_L_227 : decode code 227 = .ok (.iload_n 3, 1) := by decide +kernel
theorem d_L_228 : decode code 228 = .ok (.iconst 2, 1) := by decide +kernel
theorem d_L_229 : decode code 229 = .ok (.iadd, 1) := by decide +kernel
theorem d_L_230 : decode code 230 = .ok (.iaload, 1) := by decide +kernel
theorem d_L_231 : decode code 231 = .ok (.invokevirtual 35, 3) := by decide +kernel
theorem d_L_234 : decode code 234 = .ok (.if_icmp .eq 278, 3) := by decide +kernel
theorem d_L_237 : decode code 237 = .ok (.iconst 0, 1) := by decide +kernel
theorem d_L_238 : decode code 238 = .ok (.ireturn, 1) := by decide +kernel
theorem d_L_239 : decode code 239 = .ok (.aload_n 1, 1) := by decide +kernel
theorem d_L_240 : decode code 240 = .ok (.aload_n 0, 1) := by decide +kernel
theorem d_L_241 : decode code 241 = .ok (.iload_n 3, 1) := by decide +kernel
theorem d_L_242 : decode code 242 = .ok (.iconst 1, 1) := by decide +kernel
theorem d_L_243 : decode code 243 = .ok (.iadd, 1) := by decide +kernel
theorem d_L_244 : decode code 244 = .ok (.iaload, 1) := by decide +kernel
theorem d_L_245 : decode code 245 = .ok (.invokevirtual 36, 3) := by decide +kernel
theorem d_L_248 : decode code 248 = .ok (.aload_n 2, 1) := by decide +kernel
theorem d_L_249 : decode code 249 = .ok (.aload_n 0, 1) := by decide +kernel
theorem d_L_250 : decode code 250 = .ok (.iload_n 3, 1) := by decide +kernel
theorem d_L_251 : decode code 251 = .ok (.iconst 1, 1) := by decide +kernel
theorem d_L_252 : decode code 252 = .ok (.iadd, 1) := by decide +kernel
theorem d_L_253 : decode code 253 = .ok (.iaload, 1) := by decide +kernel
theorem d_L_254 : decode code 254 = .ok (.invokevirtual 39, 3) := by decide +kernel
theorem d_L_257 : decode code 257 = .ok (.if_icmp .eq 255, 3) := by decide +kernel
theorem d_L_260 : decode code 260 = .ok (.iconst 0, 1) := by decide +kernel
theorem d_L_261 : decode code 261 = .ok (.ireturn, 1) := by decide +kernel
theorem d_L_262 : decode code 262 = .ok (.aload_n 1, 1) := by decide +kernel
theorem d_L_263 : decode code 263 = .ok (.aload_n 0, 1) := by decide +kernel
theorem d_L_264 : decode code 264 = .ok (.iload_n 3, 1) := by decide +kernel
theorem d_L_265 : decode code 265 = .ok (.iconst 1, 1) := by decide +kernel
theorem d_L_266 : decode code 266 = .ok (.iadd, 1) := by decide +kernel
theorem d_L_267 : decode code 267 = .ok (.iaload, 1) := by decide +kernel
theorem d_L_268 : decode code 268 = .ok (.invokevirtual 40, 3) := by decide +kernel
theorem d_L_271 : decode code 271 = .ok (.aload_n 2, 1) := by decide +kernel
theorem d_L_272 : decode code 272 = .ok (.aload_n 0, 1) := by decide +kernel
theorem d_L_273 : decode code 273 = .ok (.iload_n 3, 1) := by decide +kernel
theorem d_L_274 : decode code 274 = .ok (.iconst 1, 1) := by decide +kernel
theorem d_L_275 : decode code 275 = .ok (.iadd, 1) := by decide +kernel
theorem d_L_276 : decode code 276 = .ok (.iaload, 1) := by decide +kernel
theorem d_L_277 : decode code 277 = .ok (.invokevirtual 43, 3) := by decide +kernel
theorem d_L_280 : decode code 280 = .ok (.if_icmp .eq 232, 3) := by decide +kernel
theorem d_L_283 : decode code 283 = .ok (.iconst 0, 1) := by decide +kernel
theorem d_L_284 : decode code 284 = .ok (.ireturn, 1) := by decide +kernel
theorem d_L_285 : decode code 285 = .ok (.aload_n 1, 1) := by decide +kernel
theorem d_L_286 : decode code 286 = .ok (.aload_n 0, 1) := by decide +kernel
theorem d_L_287 : decode code 287 = .ok (.iload_n 3, 1) := by decide +kernel
theorem d_L_288 : decode code 288 = .ok (.iconst 1, 1) := by decide +kernel
theorem d_L_289 : decode code 289 = .ok (.iadd, 1) := by decide +kernel
theorem d_L_290 : decode code 290 = .ok (.iaload, 1) := by decide +kernel
theorem d_L_291 : decode code 291 = .ok (.invokevirtual 44, 3) := by decide +kernel
theorem d_L_294 : decode code 294 = .ok (.aload_n 2, 1) := by decide +kernel
theorem d_L_295 : decode code 295 = .ok (.aload_n 0, 1) := by decide +kernel
theorem d_L_296 : decode code 296 = .ok (.iload_n 3, 1) := by decide +kernel
theorem d_L_297 : decode code 297 = .ok (.iconst 1, 1) := by decide +kernel
theorem d_L_298 : decode code 298 = .ok (.iadd, 1) := by decide +kernel
theorem d_L_299 : decode code 299 = .ok (.iaload, 1) := by decide +kernel
theorem d_L_300 : decode code 300 = .ok (.invokevirtual 47, 3) := by decide +kernel
theorem d_L_303 : decode code 303 = .ok (.if_icmp .eq 209, 3) := by decide +kernel
theorem d_L_306 : decode code 306 = .ok (.iconst 0, 1) := by decide +kernel
theorem d_L_307 : decode code 307 = .ok (.ireturn, 1) := by decide +kernel
theorem d_L_308 : decode code 308 = .ok (.aload_n 1, 1) := by decide +kernel
theorem d_L_309 : decode code 309 = .ok (.invokevirtual 48, 3) := by decide +kernel
theorem d_L_312 : decode code 312 = .ok (.aload_n 2, 1) := by decide +kernel
theorem d_L_313 : decode code 313 = .ok (.invokevirtual 51, 3) := by decide +kernel
theorem d_L_316 : decode code 316 = .ok (.if_icmp .eq 196, 3) := by decide +kernel
theorem d_L_319 : decode code 319 = .ok (.iconst 0, 1) := by decide +kernel
theorem d_L_320 : decode code 320 = .ok (.ireturn, 1) := by decide +kernel
theorem d_L_321 : decode code 321 = .ok (.aload_n 1, 1) := by decide +kernel
theorem d_L_322 : decode code 322 = .ok (.invokevirtual 52, 3) := by decide +kernel
theorem d_L_325 : decode code 325 = .ok (.aload_n 2, 1) := by decide +kernel
theorem d_L_326 : decode code 326 = .ok (.invokevirtual 55, 3) := by decide +kernel
theorem d_L_329 : decode code 329 = .ok (.if_icmp .eq 183, 3) := by decide +kernel
theorem d_L_332 : decode code 332 = .ok (.iconst 0, 1) := by decide +kernel
theorem d_L_333 : decode code 333 = .ok (.ireturn, 1) := by decide +kernel
theorem d_L_334 : decode code 334 = .ok (.aload_n 1, 1) := by decide +kernel
theorem d_L_335 : decode code 335 = .ok (.aload_n 0, 1) := by decide +kernel
theorem d_L_336 : decode code 336 = .ok (.iload_n 3, 1) := by decide +kernel
theorem d_L_337 : decode code 337 = .ok (.iconst 1, 1) := by decide +kernel
theorem d_L_338 : decode code 338 = .ok (.iadd, 1) := by decide +kernel
theorem d_L_339 : decode code 339 = .ok (.iaload, 1) := by decide +kernel
theorem d_L_340 : decode code 340 = .ok (.invokevirtual 56, 3) := by decide +kernel
theorem d_L_343 : decode code 343 = .ok (.aload_n 2, 1) := by decide +kernel
theorem d_L_344 : decode code 344 = .ok (.aload_n 0, 1) := by decide +kernel
theorem d_L_345 : decode code 345 = .ok (.iload_n 3, 1) := by decide +kernel
theorem d_L_346 : decode code 346 = .ok (.iconst 1, 1) := by decide +kernel
theorem d_L_347 : decode code 347 = .ok (.iadd, 1) := by decide +kernel
theorem d_L_348 : decode code 348 = .ok (.iaload, 1) := by decide +kernel
theorem d_L_349 : decode code 349 = .ok (.invokevirtual 59, 3) := by decide +kernel
theorem d_L_352 : decode code 352 = .ok (.if_icmp .eq 160, 3) := by decide +kernel
theorem d_L_355 : decode code 355 = .ok (.iconst 0, 1) := by decide +kernel
theorem d_L_356 : decode code 356 = .ok (.ireturn, 1) := by decide +kernel
theorem d_L_357 : decode code 357 = .ok (.aload_n 1, 1) := by decide +kernel
theorem d_L_358 : decode code 358 = .ok (.aload_n 0, 1) := by decide +kernel
theorem d_L_359 : decode code 359 = .ok (.iload_n 3, 1) := by decide +kernel
theorem d_L_360 : decode code 360 = .ok (.iconst 1, 1) := by decide +kernel
theorem d_L_361 : decode code 361 = .ok (.iadd, 1) := by decide +kernel
theorem d_L_362 : decode code 362 = .ok (.iaload, 1) := by decide +kernel
theorem d_L_363 : decode code 363 = .ok (.invokevirtual 60, 3) := by decide +kernel
theorem d_L_366 : decode code 366 = .ok (.aload_n 2, 1) := by decide +kernel
theorem d_L_367 : decode code 367 = .ok (.aload_n 0, 1) := by decide +kernel
theorem d_L_368 : decode code 368 = .ok (.iload_n 3, 1) := by decide +kernel
theorem d_L_369 : decode code 369 = .ok (.iconst 1, 1) := by decide +kernel
theorem d_L_370 : decode code 370 = .ok (.iadd, 1) := by decide +kernel
theorem d_L_371 : decode code 371 = .ok (.iaload, 1) := by decide +kernel
theorem d_L_372 : decode code 372 = .ok (.invokevirtual 63, 3) := by decide +kernel
theorem d_L_375 : decode code 375 = .ok (.if_icmp .eq 137, 3) := by decide +kernel
theorem d_L_378 : decode code 378 = .ok (.iconst 0, 1) := by decide +kernel
theorem d_L_379 : decode code 379 = .ok (.ireturn, 1) := by decide +kernel
theorem d_L_380 : decode code 380 = .ok (.aload_n 1, 1) := by decide +kernel
theorem d_L_381 : decode code 381 = .ok (.invokevirtual 64, 3) := by decide +kernel
theorem d_L_384 : decode code 384 = .ok (.aload_n 2, 1) := by decide +kernel
theorem d_L_385 : decode code 385 = .ok (.invokevirtual 67, 3) := by decide +kernel
theorem d_L_388 : decode code 388 = .ok (.if_icmp .eq 124, 3) := by decide +kernel
theorem d_L_391 : decode code 391 = .ok (.iconst 0, 1) := by decide +kernel
theorem d_L_392 : decode code 392 = .ok (.ireturn, 1) := by decide +kernel
theorem d_L_393 : decode code 393 = .ok (.aload_n 1, 1) := by decide +kernel
theorem d_L_394 : decode code 394 = .ok (.aload_n 0, 1) := by decide +kernel
theorem d_L_395 : decode code 395 = .ok (.iload_n 3, 1) := by decide +kernel
theorem d_L_396 : decode code 396 = .ok (.iconst 1, 1) := by decide +kernel
theorem d_L_397 : decode code 397 = .ok (.iadd, 1) := by decide +kernel
theorem d_L_398 : decode code 398 = .ok (.iaload, 1) := by decide +kernel
theorem d_L_399 : decode code 399 = .ok (.aload_n 0, 1) := by decide +kernel
theorem d_L_400 : decode code 400 = .ok (.iload_n 3, 1) := by decide +kernel
theorem d_L_401 : decode code 401 = .ok (.iconst 2, 1) := by decide +kernel
theorem d_L_402 : decode code 402 = .ok (.iadd, 1) := by decide +kernel
theorem d_L_403 : decode code 403 = .ok (.iaload, 1) := by decide +kernel
theorem d_L_404 : decode code 404 = .ok (.invokevirtual 68, 3) := by decide +kernel
theorem d_L_407 : decode code 407 = .ok (.aload_n 2, 1) := by decide +kernel
theorem d_L_408 : decode code 408 = .ok (.aload_n 0, 1) := by decide +kernel
theorem d_L_409 : decode code 409 = .ok (.iload_n 3, 1) := by decide +kernel
theorem d_L_410 : decode code 410 = .ok (.iconst 1, 1) := by decide +kernel
theorem d_L_411 : decode code 411 = .ok (.iadd, 1) := by decide +kernel
theorem d_L_412 : decode code 412 = .ok (.iaload, 1) := by decide +kernel
theorem d_L_413 : decode code 413 = .ok (.aload_n 0, 1) := by decide +kernel
theorem d_L_414 : decode code 414 = .ok (.iload_n 3, 1) := by decide +kernel
theorem d_L_415 : decode code 415 = .ok (.iconst 2, 1) := by decide +kernel
theorem d_L_416 : decode code 416 = .ok (.iadd, 1) := by decide +kernel
theorem d_L_417 : decode code 417 = .ok (.iaload, 1) := by decide +kernel
theorem d_L_418 : decode code 418 = .ok (.invokevirtual 71, 3) := by decide +kernel
theorem d_L_421 : decode code 421 = .ok (.if_icmp .eq 91, 3) := by decide +kernel
theorem d_L_424 : decode code 424 = .ok (.iconst 0, 1) := by decide +kernel
theorem d_L_425 : decode code 425 = .ok (.ireturn, 1) := by decide +kernel
theorem d_L_426 : decode code 426 = .ok (.aload_n 1, 1) := by decide +kernel
theorem d_L_427 : decode code 427 = .ok (.invokevirtual 72, 3) := by decide +kernel
theorem d_L_430 : decode code 430 = .ok (.aload_n 2, 1) := by decide +kernel
theorem d_L_431 : decode code 431 = .ok (.invokevirtual 75, 3) := by decide +kernel
theorem d_L_434 : decode code 434 = .ok (.if_icmp .eq 78, 3) := by decide +kernel
theorem d_L_437 : decode code 437 = .ok (.iconst 0, 1) := by decide +kernel
theorem d_L_438 : decode code 438 = .ok (.ireturn, 1) := by decide +kernel
theorem d_L_439 : decode code 439 = .ok (.aload_n 1, 1) := by decide +kernel
theorem d_L_440 : decode code 440 = .ok (.aload_n 0, 1) := by decide +kernel
theorem d_L_441 : decode code 441 = .ok (.iload_n 3, 1) := by decide +kernel
theorem d_L_442 : decode code 442 = .ok (.iconst 1, 1) := by decide +kernel
theorem d_L_443 : decode code 443 = .ok (.iadd, 1) := by decide +kernel
theorem d_L_444 : decode code 444 = .ok (.iaload, 1) := by decide +kernel
theorem d_L_445 : decode code 445 = .ok (.invokevirtual 76, 3) := by decide +kernel
theorem d_L_448 : decode code 448 = .ok (.aload_n 2, 1) := by decide +kernel
theorem d_L_449 : decode code 449 = .ok (.aload_n 0, 1) := by decide +kernel
theorem d_L_450 : decode code 450 = .ok (.iload_n 3, 1) := by decide +kernel
theorem d_L_451 : decode code 451 = .ok (.iconst 1, 1) := by decide +kernel
theorem d_L_452 : decode code 452 = .ok (.iadd, 1) := by decide +kernel
theorem d_L_453 : decode code 453 = .ok (.iaload, 1) := by decide +kernel
theorem d_L_454 : decode code 454 = .ok (.invokevirtual 79, 3) := by decide +kernel
theorem d_L_457 : decode code 457 = .ok (.if_icmp .eq 55, 3) := by decide +kernel
theorem d_L_460 : decode code 460 = .ok (.iconst 0, 1) := by decide +kernel
theorem d_L_461 : decode code 461 = .ok (.ireturn, 1) := by decide +kernel
theorem d_L_462 : decode code 462 = .ok (.aload_n 1, 1) := by decide +kernel
theorem d_L_463 : decode code 463 = .ok (.invokevirtual 80, 3) := by decide +kernel
theorem d_L_466 : decode code 466 = .ok (.aload_n 2, 1) := by decide +kernel
theorem d_L_467 : decode code 467 = .ok (.invokevirtual 83, 3) := by decide +kernel
theorem d_L_470 : decode code 470 = .ok (.if_icmp .eq 42, 3) := by decide +kernel
theorem d_L_473 : decode code 473 = .ok (.iconst 0, 1) := by decide +kernel
theorem d_L_474 : decode code 474 = .ok (.ireturn, 1) := by decide +kernel
theorem d_L_475 : decode code 475 = .ok (.aload_n 1, 1) := by decide +kernel
theorem d_L_476 : decode code 476 = .ok (.aload_n 0, 1) := by decide +kernel
theorem d_L_477 : decode code 477 = .ok (.iload_n 3, 1) := by decide +kernel
theorem d_L_478 : decode code 478 = .ok (.iconst 1, 1) := by decide +kernel
theorem d_L_479 : decode code 479 = .ok (.iadd, 1) := by decide +kernel
theorem d_L_480 : decode code 480 = .ok (.iaload, 1) := by decide +kernel
theorem d_L_481 : decode code 481 = .ok (.invokevirtual 84, 3) := by decide +kernel
theorem d_L_484 : decode code 484 = .ok (.aload_n 2, 1) := by decide +kernel
theorem d_L_485 : decode code 485 = .ok (.aload_n 0, 1) := by decide +kernel
theorem d_L_486 : decode code 486 = .ok (.iload_n 3, 1) := by decide +kernel
theorem d_L_487 : decode code 487 = .ok (.iconst 1, 1) := by decide +kernel
theorem d_L_488 : decode code 488 = .ok (.iadd, 1) := by decide +kernel
theorem d_L_489 : decode code 489 = .ok (.iaload, 1) := by decide +kernel
theorem d_L_490 : decode code 490 = .ok (.invokevirtual 87, 3) := by decide +kernel
theorem d_L_493 : decode code 493 = .ok (.if_icmp .eq 19, 3) := by decide +kernel
theorem d_L_496 : decode code 496 = .ok (.iconst 0, 1) := by decide +kernel
theorem d_L_497 : decode code 497 = .ok (.ireturn, 1) := by decide +kernel
theorem d_L_498 : decode code 498 = .ok (.aload_n 1, 1) := by decide +kernel
theorem d_L_499 : decode code 499 = .ok (.invokevirtual 88, 3) := by decide +kernel
theorem d_L_502 : decode code 502 = .ok (.aload_n 2, 1) := by decide +kernel
theorem d_L_503 : decode code 503 = .ok (.invokevirtual 92, 3) := by decide +kernel
theorem d_L_506 : decode code 506 = .ok (.lcmp, 1) := by decide +kernel
theorem d_L_507 : decode code 507 = .ok (.ifCond .eq 5, 3) := by decide +kernel
theorem d_L_510 : decode code 510 = .ok (.iconst 0, 1) := by decide +kernel
theorem d_L_511 : decode code 511 = .ok (.ireturn, 1) := by decide +kernel
theorem d_L_512 : decode code 512 = .ok (.iinc 3 3, 3) := by decide +kernel
theorem d_L_515 : decode code 515 = .ok (.goto (-497), 3) := by decide +kernel
theorem d_L_518 : decode code 518 = .ok (.iconst 1, 1) := by decide +kernel
theorem d_L_519 : decode code 519 = .ok (.ireturn, 1) := by decide +kernel
theorem lk_L_13 : Cond.methodLink R_law 13 me_A_load.1 ∈ gw := (gw_t2 (List.mem_of_getElem? (i := 91) rfl) rfl)
theorem lk_L_17 : Cond.methodLink R_law 17 me_M_load.1 ∈ gw := (gw_t4 (List.mem_of_getElem? (i := 226) rfl) rfl)
theorem lk_L_18 : Cond.methodLink R_law 18 me_A_rule.1 ∈ gw := (gw_t2 (List.mem_of_getElem? (i := 99) rfl) rfl)
theorem lk_L_22 : Cond.methodLink R_law 22 me_M_rule.1 ∈ gw := (gw_t4 (List.mem_of_getElem? (i := 230) rfl) rfl)
theorem lk_L_23 : Cond.methodLink R_law 23 me_A_next.1 ∈ gw := (gw_t2 (List.mem_of_getElem? (i := 226) rfl) rfl)
theorem lk_L_26 : Cond.methodLink R_law 26 me_M_next.1 ∈ gw := (gw_t5 (List.mem_of_getElem? (i := 56) rfl) rfl)
theorem lk_L_27 : Cond.methodLink R_law 27 me_A_ring.1 ∈ gw := (gw_t2 (List.mem_of_getElem? (i := 230) rfl) rfl)
theorem lk_L_30 : Cond.methodLink R_law 30 me_M_ring.1 ∈ gw := (gw_t5 (List.mem_of_getElem? (i := 60) rfl) rfl)
theorem lk_L_31 : Cond.methodLink R_law 31 me_A_set.1 ∈ gw := (gw_t2 (List.mem_of_getElem? (i := 239) rfl) rfl)
theorem lk_L_35 : Cond.methodLink R_law 35 me_M_set.1 ∈ gw := (gw_t5 (List.mem_of_getElem? (i := 64) rfl) rfl)
theorem lk_L_36 : Cond.methodLink R_law 36 me_A_get.1 ∈ gw := (gw_t3 (List.mem_of_getElem? (i := 11) rfl) rfl)
theorem lk_L_39 : Cond.methodLink R_law 39 me_M_get.1 ∈ gw := (gw_t5 (List.mem_of_getElem? (i := 68) rfl) rfl)
theorem lk_L_40 : Cond.methodLink R_law 40 me_A_step.1 ∈ gw := (gw_t3 (List.mem_of_getElem? (i := 15) rfl) rfl)
theorem lk_L_43 : Cond.methodLink R_law 43 me_M_step.1 ∈ gw := (gw_t5 (List.mem_of_getElem? (i := 72) rfl) rfl)
theorem lk_L_44 : Cond.methodLink R_law 44 me_A_population.1 ∈ gw := (gw_t3 (List.mem_of_getElem? (i := 38) rfl) rfl)
theorem lk_L_47 : Cond.methodLink R_law 47 me_M_population.1 ∈ gw := (gw_t5 (List.mem_of_getElem? (i := 80) rfl) rfl)
theorem lk_L_48 : Cond.methodLink R_law 48 me_A_surjective.1 ∈ gw := (gw_t3 (List.mem_of_getElem? (i := 46) rfl) rfl)
theorem lk_L_51 : Cond.methodLink R_law 51 me_M_surjective.1 ∈ gw := (gw_t5 (List.mem_of_getElem? (i := 84) rfl) rfl)
theorem lk_L_52 : Cond.methodLink R_law 52 me_A_injective.1 ∈ gw := (gw_t3 (List.mem_of_getElem? (i := 73) rfl) rfl)
theorem lk_L_55 : Cond.methodLink R_law 55 me_M_injective.1 ∈ gw := (gw_t5 (List.mem_of_getElem? (i := 104) rfl) rfl)
theorem lk_L_56 : Cond.methodLink R_law 56 me_A_inverse.1 ∈ gw := (gw_t3 (List.mem_of_getElem? (i := 95) rfl) rfl)
theorem lk_L_59 : Cond.methodLink R_law 59 me_M_inverse.1 ∈ gw := (gw_t5 (List.mem_of_getElem? (i := 112) rfl) rfl)
theorem lk_L_60 : Cond.methodLink R_law 60 me_A_undo.1 ∈ gw := (gw_t3 (List.mem_of_getElem? (i := 130) rfl) rfl)
theorem lk_L_63 : Cond.methodLink R_law 63 me_M_undo.1 ∈ gw := (gw_t5 (List.mem_of_getElem? (i := 128) rfl) rfl)
theorem lk_L_64 : Cond.methodLink R_law 64 me_A_conserved.1 ∈ gw := (gw_t3 (List.mem_of_getElem? (i := 138) rfl) rfl)
theorem lk_L_67 : Cond.methodLink R_law 67 me_M_conserved.1 ∈ gw := (gw_t5 (List.mem_of_getElem? (i := 132) rfl) rfl)
theorem lk_L_68 : Cond.methodLink R_law 68 me_A_weight.1 ∈ gw := (gw_t3 (List.mem_of_getElem? (i := 179) rfl) rfl)
theorem lk_L_71 : Cond.methodLink R_law 71 me_M_weight.1 ∈ gw := (gw_t5 (List.mem_of_getElem? (i := 159) rfl) rfl)
theorem lk_L_72 : Cond.methodLink R_law 72 me_A_orphan.1 ∈ gw := (gw_t3 (List.mem_of_getElem? (i := 188) rfl) rfl)
theorem lk_L_75 : Cond.methodLink R_law 75 me_M_orphan.1 ∈ gw := (gw_t5 (List.mem_of_getElem? (i := 163) rfl) rfl)
theorem lk_L_76 : Cond.methodLink R_law 76 me_A_orphanAt.1 ∈ gw := (gw_t3 (List.mem_of_getElem? (i := 220) rfl) rfl)
theorem lk_L_79 : Cond.methodLink R_law 79 me_M_orphanAt.1 ∈ gw := (gw_t5 (List.mem_of_getElem? (i := 181) rfl) rfl)
theorem lk_L_80 : Cond.methodLink R_law 80 me_A_before.1 ∈ gw := (gw_t3 (List.mem_of_getElem? (i := 228) rfl) rfl)
theorem lk_L_83 : Cond.methodLink R_law 83 me_M_before.1 ∈ gw := (gw_t5 (List.mem_of_getElem? (i := 185) rfl) rfl)
theorem lk_L_84 : Cond.methodLink R_law 84 me_A_beforeAt.1 ∈ gw := (gw_t4 (List.mem_of_getElem? (i := 23) rfl) rfl)
theorem lk_L_87 : Cond.methodLink R_law 87 me_M_beforeAt.1 ∈ gw := (gw_t5 (List.mem_of_getElem? (i := 209) rfl) rfl)
theorem lk_L_88 : Cond.methodLink R_law 88 me_A_ways.1 ∈ gw := (gw_t4 (List.mem_of_getElem? (i := 32) rfl) rfl)
theorem lk_L_92 : Cond.methodLink R_law 92 me_M_ways.1 ∈ gw := (gw_t5 (List.mem_of_getElem? (i := 213) rfl) rfl)
/-- what a step of the law asks of the two -/
def lSt (l : Launch) (v1 v2 : gs_V) (n : Nat) (σ1 σ2 : gs_S) (Post : gs_S → gs_S → Prop) : Prop := ∀ x y : Int32, Post σ1 σ2 ∧ lOi l v1 v2 n me_A_load me_M_load [.int x] σ1 σ2 Post ∧ lOi l v1 v2 n me_A_rule me_M_rule [] σ1 σ2 Post ∧ lOi l v1 v2 n me_A_next me_M_next [.int x] σ1 σ2 Post ∧ lOi l v1 v2 n me_A_ring me_M_ring [.int x] σ1 σ2 Post ∧ lOi l v1 v2 n me_A_set me_M_set [.int x, .int y] σ1 σ2 Post ∧ lOi l v1 v2 n me_A_get me_M_get [.int x] σ1 σ2 Post ∧ lOi l v1 v2 n me_A_step me_M_step [.int x] σ1 σ2 Post ∧ lOi l v1 v2 n me_A_population me_M_population [.int x] σ1 σ2 Post ∧ lOi l v1 v2 n me_A_surjective me_M_surjective [] σ1 σ2 Post ∧ lOi l v1 v2 n me_A_injective me_M_injective [] σ1 σ2 Post ∧ lOi l v1 v2 n me_A_inverse me_M_inverse [.int x] σ1 σ2 Post ∧ lOi l v1 v2 n me_A_undo me_M_undo [.int x] σ1 σ2 Post ∧ lOi l v1 v2 n me_A_conserved me_M_conserved [] σ1 σ2 Post ∧ lOi l v1 v2 n me_A_weight me_M_weight [.int x, .int y] σ1 σ2 Post ∧ lOi l v1 v2 n me_A_orphan me_M_orphan [] σ1 σ2 Post ∧ lOi l v1 v2 n me_A_orphanAt me_M_orphanAt [.int x] σ1 σ2 Post ∧ lOi l v1 v2 n me_A_before me_M_before [] σ1 σ2 Post ∧ lOi l v1 v2 n me_A_beforeAt me_M_beforeAt [.int x] σ1 σ2 Post ∧ lOl l v1 v2 n me_A_ways me_M_ways [] σ1 σ2 Post
section LL
variable {l : Launch} {v1 v2 : gs_V} {b L : Nat} {xs : Nat → Int32} {n : Nat}
set_option maxRecDepth 20000 in
set_option maxHeartbeats 1000000 in
theorem c_L_0 {i : Nat} {σ1 σ2 : gs_S} {Post : gs_S → gs_S → Prop} (hn : n ≤ 2000) (hi : 3 * i + 3 ≤ L) (hL : L < 2 ^ 30) (h : ∀ x y : Int32, lOi l v1 v2 n me_A_load me_M_load [.int x] σ1 σ2 Post) (k : ∀ σ1' σ2', Post σ1' σ2' → lG l v1 v2 b L xs 512 [(0, .ref b), (1, .ref (v1.2.2 0)), (2, .ref (v2.2.2 0)), (3, .int (nI (3 * i)))] [] σ1' σ2') : lG l v1 v2 b L xs 124 [(0, .ref b), (1, .ref (v1.2.2 0)), (2, .ref (v2.2.2 0)), (3, .int (nI (3 * i)))] [] σ1 σ2 := by
  have e1 : nI (3 * i) + 1 = nI (3 * i + 1) := nI_1 _
  have e2 : nI (3 * i) + 2 = nI (3 * i + 2) := nI_add (3 * i) 2
  have c1 : (nI (3 * i + 1)).toNatClampNeg = 3 * i + 1 := nI_clamp (by omega)
  have c2 : (nI (3 * i + 2)).toNatClampNeg = 3 * i + 2 := nI_clamp (by omega)
  have h := h (xs (3 * i + 1)) (xs (3 * i + 2))
  refine l_aload_n d_L_124 1 rfl rfl ?_
  refine l_aload_n d_L_125 0 rfl rfl ?_
  refine l_iload_n d_L_126 3 rfl rfl ?_
  refine l_iconst d_L_127 (x := 1) (by decide) ?_
  refine l_iadd d_L_128 ?_
  rw [e1]
  refine l_sld d_L_129 (vp_in_nI (by omega) (by omega)) ?_
  rw [c1]
  refine l_callCi (av := [.int (xs (3 * i + 1))]) (rest := []) d_L_130 Y_A_load lk_L_13 rfl rfl I_A_load rfl hn (Nat.le_of_ble_eq_true rfl) rfl h (fun r1 σ1 h => ?_)
  refine l_aload_n d_L_133 2 rfl rfl ?_
  refine l_aload_n d_L_134 0 rfl rfl ?_
  refine l_iload_n d_L_135 3 rfl rfl ?_
  refine l_iconst d_L_136 (x := 1) (by decide) ?_
  refine l_iadd d_L_137 ?_
  rw [e1]
  refine l_sld d_L_138 (vp_in_nI (by omega) (by omega)) ?_
  rw [c1]
  refine l_callMi (av := [.int (xs (3 * i + 1))]) (rest := [.int r1]) d_L_139 Y_M_load lk_L_17 rfl rfl I_M_load rfl hn (Nat.le_of_ble_eq_true rfl) rfl h (fun r2 σ2 h => ?_)
  exact l_icmp_eq (tgt := 512) d_L_142 rfl h.1 (k _ _ h.2)
set_option maxRecDepth 20000 in
set_option maxHeartbeats 1000000 in
theorem c_L_1 {i : Nat} {σ1 σ2 : gs_S} {Post : gs_S → gs_S → Prop} (hn : n ≤ 2000) (hi : 3 * i + 3 ≤ L) (hL : L < 2 ^ 30) (h : ∀ x y : Int32, lOi l v1 v2 n me_A_rule me_M_rule [] σ1 σ2 Post) (k : ∀ σ1' σ2', Post σ1' σ2' → lG l v1 v2 b L xs 512 [(0, .ref b), (1, .ref (v1.2.2 0)), (2, .ref (v2.2.2 0)), (3, .int (nI (3 * i)))] [] σ1' σ2') : lG l v1 v2 b L xs 147 [(0, .ref b), (1, .ref (v1.2.2 0)), (2, .ref (v2.2.2 0)), (3, .int (nI (3 * i)))] [] σ1 σ2 := by
  have e1 : nI (3 * i) + 1 = nI (3 * i + 1) := nI_1 _
  have e2 : nI (3 * i) + 2 = nI (3 * i + 2) := nI_add (3 * i) 2
  have c1 : (nI (3 * i + 1)).toNatClampNeg = 3 * i + 1 := nI_clamp (by omega)
  have c2 : (nI (3 * i + 2)).toNatClampNeg = 3 * i + 2 := nI_clamp (by omega)
  have h := h (xs (3 * i + 1)) (xs (3 * i + 2))
  refine l_aload_n d_L_147 1 rfl rfl ?_
  refine l_callCi (av := []) (rest := []) d_L_148 Y_A_rule lk_L_18 rfl rfl I_A_rule rfl hn (Nat.le_of_ble_eq_true rfl) rfl h (fun r1 σ1 h => ?_)
  refine l_aload_n d_L_151 2 rfl rfl ?_
  refine l_callMi (av := []) (rest := [.int r1]) d_L_152 Y_M_rule lk_L_22 rfl rfl I_M_rule rfl hn (Nat.le_of_ble_eq_true rfl) rfl h (fun r2 σ2 h => ?_)
  exact l_icmp_eq (tgt := 512) d_L_155 rfl h.1 (k _ _ h.2)
set_option maxRecDepth 20000 in
set_option maxHeartbeats 1000000 in
theorem c_L_2 {i : Nat} {σ1 σ2 : gs_S} {Post : gs_S → gs_S → Prop} (hn : n ≤ 2000) (hi : 3 * i + 3 ≤ L) (hL : L < 2 ^ 30) (h : ∀ x y : Int32, lOi l v1 v2 n me_A_next me_M_next [.int x] σ1 σ2 Post) (k : ∀ σ1' σ2', Post σ1' σ2' → lG l v1 v2 b L xs 512 [(0, .ref b), (1, .ref (v1.2.2 0)), (2, .ref (v2.2.2 0)), (3, .int (nI (3 * i)))] [] σ1' σ2') : lG l v1 v2 b L xs 160 [(0, .ref b), (1, .ref (v1.2.2 0)), (2, .ref (v2.2.2 0)), (3, .int (nI (3 * i)))] [] σ1 σ2 := by
  have e1 : nI (3 * i) + 1 = nI (3 * i + 1) := nI_1 _
  have e2 : nI (3 * i) + 2 = nI (3 * i + 2) := nI_add (3 * i) 2
  have c1 : (nI (3 * i + 1)).toNatClampNeg = 3 * i + 1 := nI_clamp (by omega)
  have c2 : (nI (3 * i + 2)).toNatClampNeg = 3 * i + 2 := nI_clamp (by omega)
  have h := h (xs (3 * i + 1)) (xs (3 * i + 2))
  refine l_aload_n d_L_160 1 rfl rfl ?_
  refine l_aload_n d_L_161 0 rfl rfl ?_
  refine l_iload_n d_L_162 3 rfl rfl ?_
  refine l_iconst d_L_163 (x := 1) (by decide) ?_
  refine l_iadd d_L_164 ?_
  rw [e1]
  refine l_sld d_L_165 (vp_in_nI (by omega) (by omega)) ?_
  rw [c1]
  refine l_callCi (av := [.int (xs (3 * i + 1))]) (rest := []) d_L_166 Y_A_next lk_L_23 rfl rfl I_A_next rfl hn (Nat.le_of_ble_eq_true rfl) rfl h (fun r1 σ1 h => ?_)
  refine l_aload_n d_L_169 2 rfl rfl ?_
  refine l_aload_n d_L_170 0 rfl rfl ?_
  refine l_iload_n d_L_171 3 rfl rfl ?_
  refine l_iconst d_L_172 (x := 1) (by decide) ?_
  refine l_iadd d_L_173 ?_
  rw [e1]
  refine l_sld d_L_174 (vp_in_nI (by omega) (by omega)) ?_
  rw [c1]
  refine l_callMi (av := [.int (xs (3 * i + 1))]) (rest := [.int r1]) d_L_175 Y_M_next lk_L_26 rfl rfl I_M_next rfl hn (Nat.le_of_ble_eq_true rfl) rfl h (fun r2 σ2 h => ?_)
  exact l_icmp_eq (tgt := 512) d_L_178 rfl h.1 (k _ _ h.2)
set_option maxRecDepth 20000 in
set_option maxHeartbeats 1000000 in
theorem c_L_3 {i : Nat} {σ1 σ2 : gs_S} {Post : gs_S → gs_S → Prop} (hn : n ≤ 2000) (hi : 3 * i + 3 ≤ L) (hL : L < 2 ^ 30) (h : ∀ x y : Int32, lOi l v1 v2 n me_A_ring me_M_ring [.int x] σ1 σ2 Post) (k : ∀ σ1' σ2', Post σ1' σ2' → lG l v1 v2 b L xs 512 [(0, .ref b), (1, .ref (v1.2.2 0)), (2, .ref (v2.2.2 0)), (3, .int (nI (3 * i)))] [] σ1' σ2') : lG l v1 v2 b L xs 183 [(0, .ref b), (1, .ref (v1.2.2 0)), (2, .ref (v2.2.2 0)), (3, .int (nI (3 * i)))] [] σ1 σ2 := by
  have e1 : nI (3 * i) + 1 = nI (3 * i + 1) := nI_1 _
  have e2 : nI (3 * i) + 2 = nI (3 * i + 2) := nI_add (3 * i) 2
  have c1 : (nI (3 * i + 1)).toNatClampNeg = 3 * i + 1 := nI_clamp (by omega)
  have c2 : (nI (3 * i + 2)).toNatClampNeg = 3 * i + 2 := nI_clamp (by omega)
  have h := h (xs (3 * i + 1)) (xs (3 * i + 2))
  refine l_aload_n d_L_183 1 rfl rfl ?_
  refine l_aload_n d_L_184 0 rfl rfl ?_
  refine l_iload_n d_L_185 3 rfl rfl ?_
  refine l_iconst d_L_186 (x := 1) (by decide) ?_
  refine l_iadd d_L_187 ?_
  rw [e1]
  refine l_sld d_L_188 (vp_in_nI (by omega) (by omega)) ?_
  rw [c1]
  refine l_callCi (av := [.int (xs (3 * i + 1))]) (rest := []) d_L_189 Y_A_ring lk_L_27 rfl rfl I_A_ring rfl hn (Nat.le_of_ble_eq_true rfl) rfl h (fun r1 σ1 h => ?_)
  refine l_aload_n d_L_192 2 rfl rfl ?_
  refine l_aload_n d_L_193 0 rfl rfl ?_
  refine l_iload_n d_L_194 3 rfl rfl ?_
  refine l_iconst d_L_195 (x := 1) (by decide) ?_
  refine l_iadd d_L_196 ?_
  rw [e1]
  refine l_sld d_L_197 (vp_in_nI (by omega) (by omega)) ?_
  rw [c1]
  refine l_callMi (av := [.int (xs (3 * i + 1))]) (rest := [.int r1]) d_L_198 Y_M_ring lk_L_30 rfl rfl I_M_ring rfl hn (Nat.le_of_ble_eq_true rfl) rfl h (fun r2 σ2 h => ?_)
  exact l_icmp_eq (tgt := 512) d_L_201 rfl h.1 (k _ _ h.2)
set_option maxRecDepth 20000 in
set_option maxHeartbeats 1000000 in
theorem c_L_4 {i : Nat} {σ1 σ2 : gs_S} {Post : gs_S → gs_S → Prop} (hn : n ≤ 2000) (hi : 3 * i + 3 ≤ L) (hL : L < 2 ^ 30) (h : ∀ x y : Int32, lOi l v1 v2 n me_A_set me_M_set [.int x, .int y] σ1 σ2 Post) (k : ∀ σ1' σ2', Post σ1' σ2' → lG l v1 v2 b L xs 512 [(0, .ref b), (1, .ref (v1.2.2 0)), (2, .ref (v2.2.2 0)), (3, .int (nI (3 * i)))] [] σ1' σ2') : lG l v1 v2 b L xs 206 [(0, .ref b), (1, .ref (v1.2.2 0)), (2, .ref (v2.2.2 0)), (3, .int (nI (3 * i)))] [] σ1 σ2 := by
  have e1 : nI (3 * i) + 1 = nI (3 * i + 1) := nI_1 _
  have e2 : nI (3 * i) + 2 = nI (3 * i + 2) := nI_add (3 * i) 2
  have c1 : (nI (3 * i + 1)).toNatClampNeg = 3 * i + 1 := nI_clamp (by omega)
  have c2 : (nI (3 * i + 2)).toNatClampNeg = 3 * i + 2 := nI_clamp (by omega)
  have h := h (xs (3 * i + 1)) (xs (3 * i + 2))
  refine l_aload_n d_L_206 1 rfl rfl ?_
  refine l_aload_n d_L_207 0 rfl rfl ?_
  refine l_iload_n d_L_208 3 rfl rfl ?_
  refine l_iconst d_L_209 (x := 1) (by decide) ?_
  refine l_iadd d_L_210 ?_
  rw [e1]
  refine l_sld d_L_211 (vp_in_nI (by omega) (by omega)) ?_
  rw [c1]
  refine l_aload_n d_L_212 0 rfl rfl ?_
  refine l_iload_n d_L_213 3 rfl rfl ?_
  refine l_iconst d_L_214 (x := 2) (by decide) ?_
  refine l_iadd d_L_215 ?_
  rw [e2]
  refine l_sld d_L_216 (vp_in_nI (by omega) (by omega)) ?_
  rw [c2]
  refine l_callCi (av := [.int (xs (3 * i + 1)), .int (xs (3 * i + 2))]) (rest := []) d_L_217 Y_A_set lk_L_31 rfl rfl I_A_set rfl hn (Nat.le_of_ble_eq_true rfl) rfl h (fun r1 σ1 h => ?_)
  refine l_aload_n d_L_220 2 rfl rfl ?_
  refine l_aload_n d_L_221 0 rfl rfl ?_
  refine l_iload_n d_L_222 3 rfl rfl ?_
  refine l_iconst d_L_223 (x := 1) (by decide) ?_
  refine l_iadd d_L_224 ?_
  rw [e1]
  refine l_sld d_L_225 (vp_in_nI (by omega) (by omega)) ?_
  rw [c1]
  refine l_aload_n d_L_226 0 rfl rfl ?_
  refine l_iload_n d_L_227 3 rfl rfl ?_
  refine l_iconst d_L_228 (x := 2) (by decide) ?_
  refine l_iadd d_L_229 ?_
  rw [e2]
  refine l_sld d_L_230 (vp_in_nI (by omega) (by omega)) ?_
  rw [c2]
  refine l_callMi (av := [.int (xs (3 * i + 1)), .int (xs (3 * i + 2))]) (rest := [.int r1]) d_L_231 Y_M_set lk_L_35 rfl rfl I_M_set rfl hn (Nat.le_of_ble_eq_true rfl) rfl h (fun r2 σ2 h => ?_)
  exact l_icmp_eq (tgt := 512) d_L_234 rfl h.1 (k _ _ h.2)
set_option maxRecDepth 20000 in
set_option maxHeartbeats 1000000 in
theorem c_L_5 {i : Nat} {σ1 σ2 : gs_S} {Post : gs_S → gs_S → Prop} (hn : n ≤ 2000) (hi : 3 * i + 3 ≤ L) (hL : L < 2 ^ 30) (h : ∀ x y : Int32, lOi l v1 v2 n me_A_get me_M_get [.int x] σ1 σ2 Post) (k : ∀ σ1' σ2', Post σ1' σ2' → lG l v1 v2 b L xs 512 [(0, .ref b), (1, .ref (v1.2.2 0)), (2, .ref (v2.2.2 0)), (3, .int (nI (3 * i)))] [] σ1' σ2') : lG l v1 v2 b L xs 239 [(0, .ref b), (1, .ref (v1.2.2 0)), (2, .ref (v2.2.2 0)), (3, .int (nI (3 * i)))] [] σ1 σ2 := by
  have e1 : nI (3 * i) + 1 = nI (3 * i + 1) := nI_1 _
  have e2 : nI (3 * i) + 2 = nI (3 * i + 2) := nI_add (3 * i) 2
  have c1 : (nI (3 * i + 1)).toNatClampNeg = 3 * i + 1 := nI_clamp (by omega)
  have c2 : (nI (3 * i + 2)).toNatClampNeg = 3 * i + 2 := nI_clamp (by omega)
  have h := h (xs (3 * i + 1)) (xs (3 * i + 2))
  refine l_aload_n d_L_239 1 rfl rfl ?_
  refine l_aload_n d_L_240 0 rfl rfl ?_
  refine l_iload_n d_L_241 3 rfl rfl ?_
  refine l_iconst d_L_242 (x := 1) (by decide) ?_
  refine l_iadd d_L_243 ?_
  rw [e1]
  refine l_sld d_L_244 (vp_in_nI (by omega) (by omega)) ?_
  rw [c1]
  refine l_callCi (av := [.int (xs (3 * i + 1))]) (rest := []) d_L_245 Y_A_get lk_L_36 rfl rfl I_A_get rfl hn (Nat.le_of_ble_eq_true rfl) rfl h (fun r1 σ1 h => ?_)
  refine l_aload_n d_L_248 2 rfl rfl ?_
  refine l_aload_n d_L_249 0 rfl rfl ?_
  refine l_iload_n d_L_250 3 rfl rfl ?_
  refine l_iconst d_L_251 (x := 1) (by decide) ?_
  refine l_iadd d_L_252 ?_
  rw [e1]
  refine l_sld d_L_253 (vp_in_nI (by omega) (by omega)) ?_
  rw [c1]
  refine l_callMi (av := [.int (xs (3 * i + 1))]) (rest := [.int r1]) d_L_254 Y_M_get lk_L_39 rfl rfl I_M_get rfl hn (Nat.le_of_ble_eq_true rfl) rfl h (fun r2 σ2 h => ?_)
  exact l_icmp_eq (tgt := 512) d_L_257 rfl h.1 (k _ _ h.2)
set_option maxRecDepth 20000 in
set_option maxHeartbeats 1000000 in
theorem c_L_6 {i : Nat} {σ1 σ2 : gs_S} {Post : gs_S → gs_S → Prop} (hn : n ≤ 2000) (hi : 3 * i + 3 ≤ L) (hL : L < 2 ^ 30) (h : ∀ x y : Int32, lOi l v1 v2 n me_A_step me_M_step [.int x] σ1 σ2 Post) (k : ∀ σ1' σ2', Post σ1' σ2' → lG l v1 v2 b L xs 512 [(0, .ref b), (1, .ref (v1.2.2 0)), (2, .ref (v2.2.2 0)), (3, .int (nI (3 * i)))] [] σ1' σ2') : lG l v1 v2 b L xs 262 [(0, .ref b), (1, .ref (v1.2.2 0)), (2, .ref (v2.2.2 0)), (3, .int (nI (3 * i)))] [] σ1 σ2 := by
  have e1 : nI (3 * i) + 1 = nI (3 * i + 1) := nI_1 _
  have e2 : nI (3 * i) + 2 = nI (3 * i + 2) := nI_add (3 * i) 2
  have c1 : (nI (3 * i + 1)).toNatClampNeg = 3 * i + 1 := nI_clamp (by omega)
  have c2 : (nI (3 * i + 2)).toNatClampNeg = 3 * i + 2 := nI_clamp (by omega)
  have h := h (xs (3 * i + 1)) (xs (3 * i + 2))
  refine l_aload_n d_L_262 1 rfl rfl ?_
  refine l_aload_n d_L_263 0 rfl rfl ?_
  refine l_iload_n d_L_264 3 rfl rfl ?_
  refine l_iconst d_L_265 (x := 1) (by decide) ?_
  refine l_iadd d_L_266 ?_
  rw [e1]
  refine l_sld d_L_267 (vp_in_nI (by omega) (by omega)) ?_
  rw [c1]
  refine l_callCi (av := [.int (xs (3 * i + 1))]) (rest := []) d_L_268 Y_A_step lk_L_40 rfl rfl I_A_step rfl hn (Nat.le_of_ble_eq_true rfl) rfl h (fun r1 σ1 h => ?_)
  refine l_aload_n d_L_271 2 rfl rfl ?_
  refine l_aload_n d_L_272 0 rfl rfl ?_
  refine l_iload_n d_L_273 3 rfl rfl ?_
  refine l_iconst d_L_274 (x := 1) (by decide) ?_
  refine l_iadd d_L_275 ?_
  rw [e1]
  refine l_sld d_L_276 (vp_in_nI (by omega) (by omega)) ?_
  rw [c1]
  refine l_callMi (av := [.int (xs (3 * i + 1))]) (rest := [.int r1]) d_L_277 Y_M_step lk_L_43 rfl rfl I_M_step rfl hn (Nat.le_of_ble_eq_true rfl) rfl h (fun r2 σ2 h => ?_)
  exact l_icmp_eq (tgt := 512) d_L_280 rfl h.1 (k _ _ h.2)
set_option maxRecDepth 20000 in
set_option maxHeartbeats 1000000 in
theorem c_L_7 {i : Nat} {σ1 σ2 : gs_S} {Post : gs_S → gs_S → Prop} (hn : n ≤ 2000) (hi : 3 * i + 3 ≤ L) (hL : L < 2 ^ 30) (h : ∀ x y : Int32, lOi l v1 v2 n me_A_population me_M_population [.int x] σ1 σ2 Post) (k : ∀ σ1' σ2', Post σ1' σ2' → lG l v1 v2 b L xs 512 [(0, .ref b), (1, .ref (v1.2.2 0)), (2, .ref (v2.2.2 0)), (3, .int (nI (3 * i)))] [] σ1' σ2') : lG l v1 v2 b L xs 285 [(0, .ref b), (1, .ref (v1.2.2 0)), (2, .ref (v2.2.2 0)), (3, .int (nI (3 * i)))] [] σ1 σ2 := by
  have e1 : nI (3 * i) + 1 = nI (3 * i + 1) := nI_1 _
  have e2 : nI (3 * i) + 2 = nI (3 * i + 2) := nI_add (3 * i) 2
  have c1 : (nI (3 * i + 1)).toNatClampNeg = 3 * i + 1 := nI_clamp (by omega)
  have c2 : (nI (3 * i + 2)).toNatClampNeg = 3 * i + 2 := nI_clamp (by omega)
  have h := h (xs (3 * i + 1)) (xs (3 * i + 2))
  refine l_aload_n d_L_285 1 rfl rfl ?_
  refine l_aload_n d_L_286 0 rfl rfl ?_
  refine l_iload_n d_L_287 3 rfl rfl ?_
  refine l_iconst d_L_288 (x := 1) (by decide) ?_
  refine l_iadd d_L_289 ?_
  rw [e1]
  refine l_sld d_L_290 (vp_in_nI (by omega) (by omega)) ?_
  rw [c1]
  refine l_callCi (av := [.int (xs (3 * i + 1))]) (rest := []) d_L_291 Y_A_population lk_L_44 rfl rfl I_A_population rfl hn (Nat.le_of_ble_eq_true rfl) rfl h (fun r1 σ1 h => ?_)
  refine l_aload_n d_L_294 2 rfl rfl ?_
  refine l_aload_n d_L_295 0 rfl rfl ?_
  refine l_iload_n d_L_296 3 rfl rfl ?_
  refine l_iconst d_L_297 (x := 1) (by decide) ?_
  refine l_iadd d_L_298 ?_
  rw [e1]
  refine l_sld d_L_299 (vp_in_nI (by omega) (by omega)) ?_
  rw [c1]
  refine l_callMi (av := [.int (xs (3 * i + 1))]) (rest := [.int r1]) d_L_300 Y_M_population lk_L_47 rfl rfl I_M_population rfl hn (Nat.le_of_ble_eq_true rfl) rfl h (fun r2 σ2 h => ?_)
  exact l_icmp_eq (tgt := 512) d_L_303 rfl h.1 (k _ _ h.2)
set_option maxRecDepth 20000 in
set_option maxHeartbeats 1000000 in
theorem c_L_8 {i : Nat} {σ1 σ2 : gs_S} {Post : gs_S → gs_S → Prop} (hn : n ≤ 2000) (hi : 3 * i + 3 ≤ L) (hL : L < 2 ^ 30) (h : ∀ x y : Int32, lOi l v1 v2 n me_A_surjective me_M_surjective [] σ1 σ2 Post) (k : ∀ σ1' σ2', Post σ1' σ2' → lG l v1 v2 b L xs 512 [(0, .ref b), (1, .ref (v1.2.2 0)), (2, .ref (v2.2.2 0)), (3, .int (nI (3 * i)))] [] σ1' σ2') : lG l v1 v2 b L xs 308 [(0, .ref b), (1, .ref (v1.2.2 0)), (2, .ref (v2.2.2 0)), (3, .int (nI (3 * i)))] [] σ1 σ2 := by
  have e1 : nI (3 * i) + 1 = nI (3 * i + 1) := nI_1 _
  have e2 : nI (3 * i) + 2 = nI (3 * i + 2) := nI_add (3 * i) 2
  have c1 : (nI (3 * i + 1)).toNatClampNeg = 3 * i + 1 := nI_clamp (by omega)
  have c2 : (nI (3 * i + 2)).toNatClampNeg = 3 * i + 2 := nI_clamp (by omega)
  have h := h (xs (3 * i + 1)) (xs (3 * i + 2))
  refine l_aload_n d_L_308 1 rfl rfl ?_
  refine l_callCi (av := []) (rest := []) d_L_309 Y_A_surjective lk_L_48 rfl rfl I_A_surjective rfl hn (Nat.le_of_ble_eq_true rfl) rfl h (fun r1 σ1 h => ?_)
  refine l_aload_n d_L_312 2 rfl rfl ?_
  refine l_callMi (av := []) (rest := [.int r1]) d_L_313 Y_M_surjective lk_L_51 rfl rfl I_M_surjective rfl hn (Nat.le_of_ble_eq_true rfl) rfl h (fun r2 σ2 h => ?_)
  exact l_icmp_eq (tgt := 512) d_L_316 rfl h.1 (k _ _ h.2)
set_option maxRecDepth 20000 in
set_option maxHeartbeats 1000000 in
theorem c_L_9 {i : Nat} {σ1 σ2 : gs_S} {Post : gs_S → gs_S → Prop} (hn : n ≤ 2000) (hi : 3 * i + 3 ≤ L) (hL : L < 2 ^ 30) (h : ∀ x y : Int32, lOi l v1 v2 n me_A_injective me_M_injective [] σ1 σ2 Post) (k : ∀ σ1' σ2', Post σ1' σ2' → lG l v1 v2 b L xs 512 [(0, .ref b), (1, .ref (v1.2.2 0)), (2, .ref (v2.2.2 0)), (3, .int (nI (3 * i)))] [] σ1' σ2') : lG l v1 v2 b L xs 321 [(0, .ref b), (1, .ref (v1.2.2 0)), (2, .ref (v2.2.2 0)), (3, .int (nI (3 * i)))] [] σ1 σ2 := by
  have e1 : nI (3 * i) + 1 = nI (3 * i + 1) := nI_1 _
  have e2 : nI (3 * i) + 2 = nI (3 * i + 2) := nI_add (3 * i) 2
  have c1 : (nI (3 * i + 1)).toNatClampNeg = 3 * i + 1 := nI_clamp (by omega)
  have c2 : (nI (3 * i + 2)).toNatClampNeg = 3 * i + 2 := nI_clamp (by omega)
  have h := h (xs (3 * i + 1)) (xs (3 * i + 2))
  refine l_aload_n d_L_321 1 rfl rfl ?_
  refine l_callCi (av := []) (rest := []) d_L_322 Y_A_injective lk_L_52 rfl rfl I_A_injective rfl hn (Nat.le_of_ble_eq_true rfl) rfl h (fun r1 σ1 h => ?_)
  refine l_aload_n d_L_325 2 rfl rfl ?_
  refine l_callMi (av := []) (rest := [.int r1]) d_L_326 Y_M_injective lk_L_55 rfl rfl I_M_injective rfl hn (Nat.le_of_ble_eq_true rfl) rfl h (fun r2 σ2 h => ?_)
  exact l_icmp_eq (tgt := 512) d_L_329 rfl h.1 (k _ _ h.2)
set_option maxRecDepth 20000 in
set_option maxHeartbeats 1000000 in
theorem c_L_10 {i : Nat} {σ1 σ2 : gs_S} {Post : gs_S → gs_S → Prop} (hn : n ≤ 2000) (hi : 3 * i + 3 ≤ L) (hL : L < 2 ^ 30) (h : ∀ x y : Int32, lOi l v1 v2 n me_A_inverse me_M_inverse [.int x] σ1 σ2 Post) (k : ∀ σ1' σ2', Post σ1' σ2' → lG l v1 v2 b L xs 512 [(0, .ref b), (1, .ref (v1.2.2 0)), (2, .ref (v2.2.2 0)), (3, .int (nI (3 * i)))] [] σ1' σ2') : lG l v1 v2 b L xs 334 [(0, .ref b), (1, .ref (v1.2.2 0)), (2, .ref (v2.2.2 0)), (3, .int (nI (3 * i)))] [] σ1 σ2 := by
  have e1 : nI (3 * i) + 1 = nI (3 * i + 1) := nI_1 _
  have e2 : nI (3 * i) + 2 = nI (3 * i + 2) := nI_add (3 * i) 2
  have c1 : (nI (3 * i + 1)).toNatClampNeg = 3 * i + 1 := nI_clamp (by omega)
  have c2 : (nI (3 * i + 2)).toNatClampNeg = 3 * i + 2 := nI_clamp (by omega)
  have h := h (xs (3 * i + 1)) (xs (3 * i + 2))
  refine l_aload_n d_L_334 1 rfl rfl ?_
  refine l_aload_n d_L_335 0 rfl rfl ?_
  refine l_iload_n d_L_336 3 rfl rfl ?_
  refine l_iconst d_L_337 (x := 1) (by decide) ?_
  refine l_iadd d_L_338 ?_
  rw [e1]
  refine l_sld d_L_339 (vp_in_nI (by omega) (by omega)) ?_
  rw [c1]
  refine l_callCi (av := [.int (xs (3 * i + 1))]) (rest := []) d_L_340 Y_A_inverse lk_L_56 rfl rfl I_A_inverse rfl hn (Nat.le_of_ble_eq_true rfl) rfl h (fun r1 σ1 h => ?_)
  refine l_aload_n d_L_343 2 rfl rfl ?_
  refine l_aload_n d_L_344 0 rfl rfl ?_
  refine l_iload_n d_L_345 3 rfl rfl ?_
  refine l_iconst d_L_346 (x := 1) (by decide) ?_
  refine l_iadd d_L_347 ?_
  rw [e1]
  refine l_sld d_L_348 (vp_in_nI (by omega) (by omega)) ?_
  rw [c1]
  refine l_callMi (av := [.int (xs (3 * i + 1))]) (rest := [.int r1]) d_L_349 Y_M_inverse lk_L_59 rfl rfl I_M_inverse rfl hn (Nat.le_of_ble_eq_true rfl) rfl h (fun r2 σ2 h => ?_)
  exact l_icmp_eq (tgt := 512) d_L_352 rfl h.1 (k _ _ h.2)
set_option maxRecDepth 20000 in
set_option maxHeartbeats 1000000 in
theorem c_L_11 {i : Nat} {σ1 σ2 : gs_S} {Post : gs_S → gs_S → Prop} (hn : n ≤ 2000) (hi : 3 * i + 3 ≤ L) (hL : L < 2 ^ 30) (h : ∀ x y : Int32, lOi l v1 v2 n me_A_undo me_M_undo [.int x] σ1 σ2 Post) (k : ∀ σ1' σ2', Post σ1' σ2' → lG l v1 v2 b L xs 512 [(0, .ref b), (1, .ref (v1.2.2 0)), (2, .ref (v2.2.2 0)), (3, .int (nI (3 * i)))] [] σ1' σ2') : lG l v1 v2 b L xs 357 [(0, .ref b), (1, .ref (v1.2.2 0)), (2, .ref (v2.2.2 0)), (3, .int (nI (3 * i)))] [] σ1 σ2 := by
  have e1 : nI (3 * i) + 1 = nI (3 * i + 1) := nI_1 _
  have e2 : nI (3 * i) + 2 = nI (3 * i + 2) := nI_add (3 * i) 2
  have c1 : (nI (3 * i + 1)).toNatClampNeg = 3 * i + 1 := nI_clamp (by omega)
  have c2 : (nI (3 * i + 2)).toNatClampNeg = 3 * i + 2 := nI_clamp (by omega)
  have h := h (xs (3 * i + 1)) (xs (3 * i + 2))
  refine l_aload_n d_L_357 1 rfl rfl ?_
  refine l_aload_n d_L_358 0 rfl rfl ?_
  refine l_iload_n d_L_359 3 rfl rfl ?_
  refine l_iconst d_L_360 (x := 1) (by decide) ?_
  refine l_iadd d_L_361 ?_
  rw [e1]
  refine l_sld d_L_362 (vp_in_nI (by omega) (by omega)) ?_
  rw [c1]
  refine l_callCi (av := [.int (xs (3 * i + 1))]) (rest := []) d_L_363 Y_A_undo lk_L_60 rfl rfl I_A_undo rfl hn (Nat.le_of_ble_eq_true rfl) rfl h (fun r1 σ1 h => ?_)
  refine l_aload_n d_L_366 2 rfl rfl ?_
  refine l_aload_n d_L_367 0 rfl rfl ?_
  refine l_iload_n d_L_368 3 rfl rfl ?_
  refine l_iconst d_L_369 (x := 1) (by decide) ?_
  refine l_iadd d_L_370 ?_
  rw [e1]
  refine l_sld d_L_371 (vp_in_nI (by omega) (by omega)) ?_
  rw [c1]
  refine l_callMi (av := [.int (xs (3 * i + 1))]) (rest := [.int r1]) d_L_372 Y_M_undo lk_L_63 rfl rfl I_M_undo rfl hn (Nat.le_of_ble_eq_true rfl) rfl h (fun r2 σ2 h => ?_)
  exact l_icmp_eq (tgt := 512) d_L_375 rfl h.1 (k _ _ h.2)
set_option maxRecDepth 20000 in
set_option maxHeartbeats 1000000 in
theorem c_L_12 {i : Nat} {σ1 σ2 : gs_S} {Post : gs_S → gs_S → Prop} (hn : n ≤ 2000) (hi : 3 * i + 3 ≤ L) (hL : L < 2 ^ 30) (h : ∀ x y : Int32, lOi l v1 v2 n me_A_conserved me_M_conserved [] σ1 σ2 Post) (k : ∀ σ1' σ2', Post σ1' σ2' → lG l v1 v2 b L xs 512 [(0, .ref b), (1, .ref (v1.2.2 0)), (2, .ref (v2.2.2 0)), (3, .int (nI (3 * i)))] [] σ1' σ2') : lG l v1 v2 b L xs 380 [(0, .ref b), (1, .ref (v1.2.2 0)), (2, .ref (v2.2.2 0)), (3, .int (nI (3 * i)))] [] σ1 σ2 := by
  have e1 : nI (3 * i) + 1 = nI (3 * i + 1) := nI_1 _
  have e2 : nI (3 * i) + 2 = nI (3 * i + 2) := nI_add (3 * i) 2
  have c1 : (nI (3 * i + 1)).toNatClampNeg = 3 * i + 1 := nI_clamp (by omega)
  have c2 : (nI (3 * i + 2)).toNatClampNeg = 3 * i + 2 := nI_clamp (by omega)
  have h := h (xs (3 * i + 1)) (xs (3 * i + 2))
  refine l_aload_n d_L_380 1 rfl rfl ?_
  refine l_callCi (av := []) (rest := []) d_L_381 Y_A_conserved lk_L_64 rfl rfl I_A_conserved rfl hn (Nat.le_of_ble_eq_true rfl) rfl h (fun r1 σ1 h => ?_)
  refine l_aload_n d_L_384 2 rfl rfl ?_
  refine l_callMi (av := []) (rest := [.int r1]) d_L_385 Y_M_conserved lk_L_67 rfl rfl I_M_conserved rfl hn (Nat.le_of_ble_eq_true rfl) rfl h (fun r2 σ2 h => ?_)
  exact l_icmp_eq (tgt := 512) d_L_388 rfl h.1 (k _ _ h.2)
set_option maxRecDepth 20000 in
set_option maxHeartbeats 1000000 in
theorem c_L_13 {i : Nat} {σ1 σ2 : gs_S} {Post : gs_S → gs_S → Prop} (hn : n ≤ 2000) (hi : 3 * i + 3 ≤ L) (hL : L < 2 ^ 30) (h : ∀ x y : Int32, lOi l v1 v2 n me_A_weight me_M_weight [.int x, .int y] σ1 σ2 Post) (k : ∀ σ1' σ2', Post σ1' σ2' → lG l v1 v2 b L xs 512 [(0, .ref b), (1, .ref (v1.2.2 0)), (2, .ref (v2.2.2 0)), (3, .int (nI (3 * i)))] [] σ1' σ2') : lG l v1 v2 b L xs 393 [(0, .ref b), (1, .ref (v1.2.2 0)), (2, .ref (v2.2.2 0)), (3, .int (nI (3 * i)))] [] σ1 σ2 := by
  have e1 : nI (3 * i) + 1 = nI (3 * i + 1) := nI_1 _
  have e2 : nI (3 * i) + 2 = nI (3 * i + 2) := nI_add (3 * i) 2
  have c1 : (nI (3 * i + 1)).toNatClampNeg = 3 * i + 1 := nI_clamp (by omega)
  have c2 : (nI (3 * i + 2)).toNatClampNeg = 3 * i + 2 := nI_clamp (by omega)
  have h := h (xs (3 * i + 1)) (xs (3 * i + 2))
  refine l_aload_n d_L_393 1 rfl rfl ?_
  refine l_aload_n d_L_394 0 rfl rfl ?_
  refine l_iload_n d_L_395 3 rfl rfl ?_
  refine l_iconst d_L_396 (x := 1) (by decide) ?_
  refine l_iadd d_L_397 ?_
  rw [e1]
  refine l_sld d_L_398 (vp_in_nI (by omega) (by omega)) ?_
  rw [c1]
  refine l_aload_n d_L_399 0 rfl rfl ?_
  refine l_iload_n d_L_400 3 rfl rfl ?_
  refine l_iconst d_L_401 (x := 2) (by decide) ?_
  refine l_iadd d_L_402 ?_
  rw [e2]
  refine l_sld d_L_403 (vp_in_nI (by omega) (by omega)) ?_
  rw [c2]
  refine l_callCi (av := [.int (xs (3 * i + 1)), .int (xs (3 * i + 2))]) (rest := []) d_L_404 Y_A_weight lk_L_68 rfl rfl I_A_weight rfl hn (Nat.le_of_ble_eq_true rfl) rfl h (fun r1 σ1 h => ?_)
  refine l_aload_n d_L_407 2 rfl rfl ?_
  refine l_aload_n d_L_408 0 rfl rfl ?_
  refine l_iload_n d_L_409 3 rfl rfl ?_
  refine l_iconst d_L_410 (x := 1) (by decide) ?_
  refine l_iadd d_L_411 ?_
  rw [e1]
  refine l_sld d_L_412 (vp_in_nI (by omega) (by omega)) ?_
  rw [c1]
  refine l_aload_n d_L_413 0 rfl rfl ?_
  refine l_iload_n d_L_414 3 rfl rfl ?_
  refine l_iconst d_L_415 (x := 2) (by decide) ?_
  refine l_iadd d_L_416 ?_
  rw [e2]
  refine l_sld d_L_417 (vp_in_nI (by omega) (by omega)) ?_
  rw [c2]
  refine l_callMi (av := [.int (xs (3 * i + 1)), .int (xs (3 * i + 2))]) (rest := [.int r1]) d_L_418 Y_M_weight lk_L_71 rfl rfl I_M_weight rfl hn (Nat.le_of_ble_eq_true rfl) rfl h (fun r2 σ2 h => ?_)
  exact l_icmp_eq (tgt := 512) d_L_421 rfl h.1 (k _ _ h.2)
set_option maxRecDepth 20000 in
set_option maxHeartbeats 1000000 in
theorem c_L_14 {i : Nat} {σ1 σ2 : gs_S} {Post : gs_S → gs_S → Prop} (hn : n ≤ 2000) (hi : 3 * i + 3 ≤ L) (hL : L < 2 ^ 30) (h : ∀ x y : Int32, lOi l v1 v2 n me_A_orphan me_M_orphan [] σ1 σ2 Post) (k : ∀ σ1' σ2', Post σ1' σ2' → lG l v1 v2 b L xs 512 [(0, .ref b), (1, .ref (v1.2.2 0)), (2, .ref (v2.2.2 0)), (3, .int (nI (3 * i)))] [] σ1' σ2') : lG l v1 v2 b L xs 426 [(0, .ref b), (1, .ref (v1.2.2 0)), (2, .ref (v2.2.2 0)), (3, .int (nI (3 * i)))] [] σ1 σ2 := by
  have e1 : nI (3 * i) + 1 = nI (3 * i + 1) := nI_1 _
  have e2 : nI (3 * i) + 2 = nI (3 * i + 2) := nI_add (3 * i) 2
  have c1 : (nI (3 * i + 1)).toNatClampNeg = 3 * i + 1 := nI_clamp (by omega)
  have c2 : (nI (3 * i + 2)).toNatClampNeg = 3 * i + 2 := nI_clamp (by omega)
  have h := h (xs (3 * i + 1)) (xs (3 * i + 2))
  refine l_aload_n d_L_426 1 rfl rfl ?_
  refine l_callCi (av := []) (rest := []) d_L_427 Y_A_orphan lk_L_72 rfl rfl I_A_orphan rfl hn (Nat.le_of_ble_eq_true rfl) rfl h (fun r1 σ1 h => ?_)
  refine l_aload_n d_L_430 2 rfl rfl ?_
  refine l_callMi (av := []) (rest := [.int r1]) d_L_431 Y_M_orphan lk_L_75 rfl rfl I_M_orphan rfl hn (Nat.le_of_ble_eq_true rfl) rfl h (fun r2 σ2 h => ?_)
  exact l_icmp_eq (tgt := 512) d_L_434 rfl h.1 (k _ _ h.2)
set_option maxRecDepth 20000 in
set_option maxHeartbeats 1000000 in
theorem c_L_15 {i : Nat} {σ1 σ2 : gs_S} {Post : gs_S → gs_S → Prop} (hn : n ≤ 2000) (hi : 3 * i + 3 ≤ L) (hL : L < 2 ^ 30) (h : ∀ x y : Int32, lOi l v1 v2 n me_A_orphanAt me_M_orphanAt [.int x] σ1 σ2 Post) (k : ∀ σ1' σ2', Post σ1' σ2' → lG l v1 v2 b L xs 512 [(0, .ref b), (1, .ref (v1.2.2 0)), (2, .ref (v2.2.2 0)), (3, .int (nI (3 * i)))] [] σ1' σ2') : lG l v1 v2 b L xs 439 [(0, .ref b), (1, .ref (v1.2.2 0)), (2, .ref (v2.2.2 0)), (3, .int (nI (3 * i)))] [] σ1 σ2 := by
  have e1 : nI (3 * i) + 1 = nI (3 * i + 1) := nI_1 _
  have e2 : nI (3 * i) + 2 = nI (3 * i + 2) := nI_add (3 * i) 2
  have c1 : (nI (3 * i + 1)).toNatClampNeg = 3 * i + 1 := nI_clamp (by omega)
  have c2 : (nI (3 * i + 2)).toNatClampNeg = 3 * i + 2 := nI_clamp (by omega)
  have h := h (xs (3 * i + 1)) (xs (3 * i + 2))
  refine l_aload_n d_L_439 1 rfl rfl ?_
  refine l_aload_n d_L_440 0 rfl rfl ?_
  refine l_iload_n d_L_441 3 rfl rfl ?_
  refine l_iconst d_L_442 (x := 1) (by decide) ?_
  refine l_iadd d_L_443 ?_
  rw [e1]
  refine l_sld d_L_444 (vp_in_nI (by omega) (by omega)) ?_
  rw [c1]
  refine l_callCi (av := [.int (xs (3 * i + 1))]) (rest := []) d_L_445 Y_A_orphanAt lk_L_76 rfl rfl I_A_orphanAt rfl hn (Nat.le_of_ble_eq_true rfl) rfl h (fun r1 σ1 h => ?_)
  refine l_aload_n d_L_448 2 rfl rfl ?_
  refine l_aload_n d_L_449 0 rfl rfl ?_
  refine l_iload_n d_L_450 3 rfl rfl ?_
  refine l_iconst d_L_451 (x := 1) (by decide) ?_
  refine l_iadd d_L_452 ?_
  rw [e1]
  refine l_sld d_L_453 (vp_in_nI (by omega) (by omega)) ?_
  rw [c1]
  refine l_callMi (av := [.int (xs (3 * i + 1))]) (rest := [.int r1]) d_L_454 Y_M_orphanAt lk_L_79 rfl rfl I_M_orphanAt rfl hn (Nat.le_of_ble_eq_true rfl) rfl h (fun r2 σ2 h => ?_)
  exact l_icmp_eq (tgt := 512) d_L_457 rfl h.1 (k _ _ h.2)
set_option maxRecDepth 20000 in
set_option maxHeartbeats 1000000 in
theorem c_L_16 {i : Nat} {σ1 σ2 : gs_S} {Post : gs_S → gs_S → Prop} (hn : n ≤ 2000) (hi : 3 * i + 3 ≤ L) (hL : L < 2 ^ 30) (h : ∀ x y : Int32, lOi l v1 v2 n me_A_before me_M_before [] σ1 σ2 Post) (k : ∀ σ1' σ2', Post σ1' σ2' → lG l v1 v2 b L xs 512 [(0, .ref b), (1, .ref (v1.2.2 0)), (2, .ref (v2.2.2 0)), (3, .int (nI (3 * i)))] [] σ1' σ2') : lG l v1 v2 b L xs 462 [(0, .ref b), (1, .ref (v1.2.2 0)), (2, .ref (v2.2.2 0)), (3, .int (nI (3 * i)))] [] σ1 σ2 := by
  have e1 : nI (3 * i) + 1 = nI (3 * i + 1) := nI_1 _
  have e2 : nI (3 * i) + 2 = nI (3 * i + 2) := nI_add (3 * i) 2
  have c1 : (nI (3 * i + 1)).toNatClampNeg = 3 * i + 1 := nI_clamp (by omega)
  have c2 : (nI (3 * i + 2)).toNatClampNeg = 3 * i + 2 := nI_clamp (by omega)
  have h := h (xs (3 * i + 1)) (xs (3 * i + 2))
  refine l_aload_n d_L_462 1 rfl rfl ?_
  refine l_callCi (av := []) (rest := []) d_L_463 Y_A_before lk_L_80 rfl rfl I_A_before rfl hn (Nat.le_of_ble_eq_true rfl) rfl h (fun r1 σ1 h => ?_)
  refine l_aload_n d_L_466 2 rfl rfl ?_
  refine l_callMi (av := []) (rest := [.int r1]) d_L_467 Y_M_before lk_L_83 rfl rfl I_M_before rfl hn (Nat.le_of_ble_eq_true rfl) rfl h (fun r2 σ2 h => ?_)
  exact l_icmp_eq (tgt := 512) d_L_470 rfl h.1 (k _ _ h.2)
set_option maxRecDepth 20000 in
set_option maxHeartbeats 1000000 in
theorem c_L_17 {i : Nat} {σ1 σ2 : gs_S} {Post : gs_S → gs_S → Prop} (hn : n ≤ 2000) (hi : 3 * i + 3 ≤ L) (hL : L < 2 ^ 30) (h : ∀ x y : Int32, lOi l v1 v2 n me_A_beforeAt me_M_beforeAt [.int x] σ1 σ2 Post) (k : ∀ σ1' σ2', Post σ1' σ2' → lG l v1 v2 b L xs 512 [(0, .ref b), (1, .ref (v1.2.2 0)), (2, .ref (v2.2.2 0)), (3, .int (nI (3 * i)))] [] σ1' σ2') : lG l v1 v2 b L xs 475 [(0, .ref b), (1, .ref (v1.2.2 0)), (2, .ref (v2.2.2 0)), (3, .int (nI (3 * i)))] [] σ1 σ2 := by
  have e1 : nI (3 * i) + 1 = nI (3 * i + 1) := nI_1 _
  have e2 : nI (3 * i) + 2 = nI (3 * i + 2) := nI_add (3 * i) 2
  have c1 : (nI (3 * i + 1)).toNatClampNeg = 3 * i + 1 := nI_clamp (by omega)
  have c2 : (nI (3 * i + 2)).toNatClampNeg = 3 * i + 2 := nI_clamp (by omega)
  have h := h (xs (3 * i + 1)) (xs (3 * i + 2))
  refine l_aload_n d_L_475 1 rfl rfl ?_
  refine l_aload_n d_L_476 0 rfl rfl ?_
  refine l_iload_n d_L_477 3 rfl rfl ?_
  refine l_iconst d_L_478 (x := 1) (by decide) ?_
  refine l_iadd d_L_479 ?_
  rw [e1]
  refine l_sld d_L_480 (vp_in_nI (by omega) (by omega)) ?_
  rw [c1]
  refine l_callCi (av := [.int (xs (3 * i + 1))]) (rest := []) d_L_481 Y_A_beforeAt lk_L_84 rfl rfl I_A_beforeAt rfl hn (Nat.le_of_ble_eq_true rfl) rfl h (fun r1 σ1 h => ?_)
  refine l_aload_n d_L_484 2 rfl rfl ?_
  refine l_aload_n d_L_485 0 rfl rfl ?_
  refine l_iload_n d_L_486 3 rfl rfl ?_
  refine l_iconst d_L_487 (x := 1) (by decide) ?_
  refine l_iadd d_L_488 ?_
  rw [e1]
  refine l_sld d_L_489 (vp_in_nI (by omega) (by omega)) ?_
  rw [c1]
  refine l_callMi (av := [.int (xs (3 * i + 1))]) (rest := [.int r1]) d_L_490 Y_M_beforeAt lk_L_87 rfl rfl I_M_beforeAt rfl hn (Nat.le_of_ble_eq_true rfl) rfl h (fun r2 σ2 h => ?_)
  exact l_icmp_eq (tgt := 512) d_L_493 rfl h.1 (k _ _ h.2)
set_option maxRecDepth 20000 in
set_option maxHeartbeats 1000000 in
theorem c_L_18 {i : Nat} {σ1 σ2 : gs_S} {Post : gs_S → gs_S → Prop} (hn : n ≤ 2000) (hi : 3 * i + 3 ≤ L) (hL : L < 2 ^ 30) (h : ∀ x y : Int32, lOl l v1 v2 n me_A_ways me_M_ways [] σ1 σ2 Post) (k : ∀ σ1' σ2', Post σ1' σ2' → lG l v1 v2 b L xs 512 [(0, .ref b), (1, .ref (v1.2.2 0)), (2, .ref (v2.2.2 0)), (3, .int (nI (3 * i)))] [] σ1' σ2') : lG l v1 v2 b L xs 498 [(0, .ref b), (1, .ref (v1.2.2 0)), (2, .ref (v2.2.2 0)), (3, .int (nI (3 * i)))] [] σ1 σ2 := by
  have e1 : nI (3 * i) + 1 = nI (3 * i + 1) := nI_1 _
  have e2 : nI (3 * i) + 2 = nI (3 * i + 2) := nI_add (3 * i) 2
  have c1 : (nI (3 * i + 1)).toNatClampNeg = 3 * i + 1 := nI_clamp (by omega)
  have c2 : (nI (3 * i + 2)).toNatClampNeg = 3 * i + 2 := nI_clamp (by omega)
  have h := h (xs (3 * i + 1)) (xs (3 * i + 2))
  refine l_aload_n d_L_498 1 rfl rfl ?_
  refine l_callCl (av := []) (rest := []) d_L_499 Y_A_ways lk_L_88 rfl rfl I_A_ways rfl hn (Nat.le_of_ble_eq_true rfl) rfl h (fun r1 σ1 h => ?_)
  refine l_aload_n d_L_502 2 rfl rfl ?_
  refine l_callMl (av := []) (rest := [.long r1]) d_L_503 Y_M_ways lk_L_92 rfl rfl I_M_ways rfl hn (Nat.le_of_ble_eq_true rfl) rfl h (fun r2 σ2 h => ?_)
  refine l_lcmp d_L_506 ?_
  exact l_if_eq (tgt := 512) d_L_507 rfl (g_cmp_eq.mpr h.1) (k _ _ h.2)
set_option maxRecDepth 20000 in
set_option maxHeartbeats 2000000 in
theorem l_loop {Rel : Nat → gs_S → gs_S → Prop} (hn : n ≤ 2000) (hL : L < 2 ^ 30) (hst : ∀ i σ1 σ2, 3 * i + 3 ≤ L → Rel i σ1 σ2 → lSt l v1 v2 n σ1 σ2 (Rel (i + 1))) : ∀ (m i : Nat) (σ1 σ2 : gs_S), L ≤ 3 * i + m → 3 * i ≤ L + 3 → Rel i σ1 σ2 → lG l v1 v2 b L xs 18 [(0, .ref b), (1, .ref (v1.2.2 0)), (2, .ref (v2.2.2 0)), (3, .int (nI (3 * i)))] [] σ1 σ2 := by
  intro m
  induction m with
  | zero =>
    intro i σ1 σ2 hm hi hR
    refine l_iload_n d_L_18 3 rfl rfl ?_
    refine l_aload_n d_L_19 0 rfl rfl ?_
    refine l_slen d_L_20 ?_
    refine l_iconst d_L_21 (x := 3) (by decide) ?_
    refine l_isub d_L_22 ?_
    refine l_icmp_gt (tgt := 518) d_L_23 rfl (fun _ => ?_) (fun h => ?_)
    · exact l_iconst d_L_518 (x := 1) (by decide) (l_ret d_L_519)
    · exfalso
      apply h
      rw [Int32.lt_iff_toInt_lt, nI_toInt (by omega)]
      have e3 := pk_sub_toInt (a := L) (b := 3) hL (by decide)
      have e4 : (Int32.ofNat L - 3).toInt = (L : Int) - 3 := e3
      rw [e4]
      omega
  | succ m ih =>
    intro i σ1 σ2 hm hi hR
    refine l_iload_n d_L_18 3 rfl rfl ?_
    refine l_aload_n d_L_19 0 rfl rfl ?_
    refine l_slen d_L_20 ?_
    refine l_iconst d_L_21 (x := 3) (by decide) ?_
    refine l_isub d_L_22 ?_
    refine l_icmp_gt (tgt := 518) d_L_23 rfl (fun _ => ?_) (fun h => ?_)
    · exact l_iconst d_L_518 (x := 1) (by decide) (l_ret d_L_519)
    · have hi3 : 3 * i + 3 ≤ L := by
        rw [Int32.lt_iff_toInt_lt, nI_toInt (by omega)] at h
        have e3 := pk_sub_toInt (a := L) (b := 3) hL (by decide)
        have e4 : (Int32.ofNat L - 3).toInt = (L : Int) - 3 := e3
        rw [e4] at h
        omega
      have hs := hst i σ1 σ2 hi3 hR
      have go : ∀ τ1 τ2, Rel (i + 1) τ1 τ2 → lG l v1 v2 b L xs 512 [(0, .ref b), (1, .ref (v1.2.2 0)), (2, .ref (v2.2.2 0)), (3, .int (nI (3 * i)))] [] τ1 τ2 := by
        intro τ1 τ2 hR'
        refine l_iinc (L' := [(3, .int (nI (3 * (i + 1)))), (0, .ref b), (1, .ref (v1.2.2 0)), (2, .ref (v2.2.2 0))]) d_L_512 3 rfl (nI_add (3 * i) 3) (by decide) rfl ?_
        refine l_goto (tgt := 18) d_L_515 rfl ?_
        exact l_sub [1, 2, 3, 0] rfl (ih (i + 1) τ1 τ2 (by omega) (by omega) hR')
      refine l_aload_n d_L_26 0 rfl rfl ?_
      refine l_iload_n d_L_27 3 rfl rfl ?_
      refine l_sld d_L_28 (vp_in_nI (by omega) (by omega)) ?_
      refine l_bipush d_L_29 (x := 31) (by decide) ?_
      refine l_iand d_L_31 ?_
      obtain ⟨j, hj, ej⟩ := pk_andE (xs (nI (3 * i)).toNatClampNeg) (m := 31) 5 (by decide)
      rw [ej]
      have tj : (nI j).toInt = (j : Int) := nI_toInt (by omega)
      by_cases h19 : 19 ≤ j
      · exact l_tabOut (tgt := 512) d_L_32 (Or.inr (by rw [tj]; omega)) rfl (go _ _ (hs 0 0).1)
      · have hs' := fun x y => (hs x y).2
        by_cases h0 : j = 0
        · subst h0
          exact l_tabIn (tgt := 124) (off := 92) d_L_32 (by rw [tj]; decide) (by rw [tj]; decide) (by rw [tj]; decide) rfl (c_L_0 hn hi3 hL (fun x y => (hs' x y).1) go)
        by_cases h1 : j = 1
        · subst h1
          exact l_tabIn (tgt := 147) (off := 115) d_L_32 (by rw [tj]; decide) (by rw [tj]; decide) (by rw [tj]; decide) rfl (c_L_1 hn hi3 hL (fun x y => (hs' x y).2.1) go)
        by_cases h2 : j = 2
        · subst h2
          exact l_tabIn (tgt := 160) (off := 128) d_L_32 (by rw [tj]; decide) (by rw [tj]; decide) (by rw [tj]; decide) rfl (c_L_2 hn hi3 hL (fun x y => (hs' x y).2.2.1) go)
        by_cases h3 : j = 3
        · subst h3
          exact l_tabIn (tgt := 183) (off := 151) d_L_32 (by rw [tj]; decide) (by rw [tj]; decide) (by rw [tj]; decide) rfl (c_L_3 hn hi3 hL (fun x y => (hs' x y).2.2.2.1) go)
        by_cases h4 : j = 4
        · subst h4
          exact l_tabIn (tgt := 206) (off := 174) d_L_32 (by rw [tj]; decide) (by rw [tj]; decide) (by rw [tj]; decide) rfl (c_L_4 hn hi3 hL (fun x y => (hs' x y).2.2.2.2.1) go)
        by_cases h5 : j = 5
        · subst h5
          exact l_tabIn (tgt := 239) (off := 207) d_L_32 (by rw [tj]; decide) (by rw [tj]; decide) (by rw [tj]; decide) rfl (c_L_5 hn hi3 hL (fun x y => (hs' x y).2.2.2.2.2.1) go)
        by_cases h6 : j = 6
        · subst h6
          exact l_tabIn (tgt := 262) (off := 230) d_L_32 (by rw [tj]; decide) (by rw [tj]; decide) (by rw [tj]; decide) rfl (c_L_6 hn hi3 hL (fun x y => (hs' x y).2.2.2.2.2.2.1) go)
        by_cases h7 : j = 7
        · subst h7
          exact l_tabIn (tgt := 285) (off := 253) d_L_32 (by rw [tj]; decide) (by rw [tj]; decide) (by rw [tj]; decide) rfl (c_L_7 hn hi3 hL (fun x y => (hs' x y).2.2.2.2.2.2.2.1) go)
        by_cases h8 : j = 8
        · subst h8
          exact l_tabIn (tgt := 308) (off := 276) d_L_32 (by rw [tj]; decide) (by rw [tj]; decide) (by rw [tj]; decide) rfl (c_L_8 hn hi3 hL (fun x y => (hs' x y).2.2.2.2.2.2.2.2.1) go)
        by_cases h9 : j = 9
        · subst h9
          exact l_tabIn (tgt := 321) (off := 289) d_L_32 (by rw [tj]; decide) (by rw [tj]; decide) (by rw [tj]; decide) rfl (c_L_9 hn hi3 hL (fun x y => (hs' x y).2.2.2.2.2.2.2.2.2.1) go)
        by_cases h10 : j = 10
        · subst h10
          exact l_tabIn (tgt := 334) (off := 302) d_L_32 (by rw [tj]; decide) (by rw [tj]; decide) (by rw [tj]; decide) rfl (c_L_10 hn hi3 hL (fun x y => (hs' x y).2.2.2.2.2.2.2.2.2.2.1) go)
        by_cases h11 : j = 11
        · subst h11
          exact l_tabIn (tgt := 357) (off := 325) d_L_32 (by rw [tj]; decide) (by rw [tj]; decide) (by rw [tj]; decide) rfl (c_L_11 hn hi3 hL (fun x y => (hs' x y).2.2.2.2.2.2.2.2.2.2.2.1) go)
        by_cases h12 : j = 12
        · subst h12
          exact l_tabIn (tgt := 380) (off := 348) d_L_32 (by rw [tj]; decide) (by rw [tj]; decide) (by rw [tj]; decide) rfl (c_L_12 hn hi3 hL (fun x y => (hs' x y).2.2.2.2.2.2.2.2.2.2.2.2.1) go)
        by_cases h13 : j = 13
        · subst h13
          exact l_tabIn (tgt := 393) (off := 361) d_L_32 (by rw [tj]; decide) (by rw [tj]; decide) (by rw [tj]; decide) rfl (c_L_13 hn hi3 hL (fun x y => (hs' x y).2.2.2.2.2.2.2.2.2.2.2.2.2.1) go)
        by_cases h14 : j = 14
        · subst h14
          exact l_tabIn (tgt := 426) (off := 394) d_L_32 (by rw [tj]; decide) (by rw [tj]; decide) (by rw [tj]; decide) rfl (c_L_14 hn hi3 hL (fun x y => (hs' x y).2.2.2.2.2.2.2.2.2.2.2.2.2.2.1) go)
        by_cases h15 : j = 15
        · subst h15
          exact l_tabIn (tgt := 439) (off := 407) d_L_32 (by rw [tj]; decide) (by rw [tj]; decide) (by rw [tj]; decide) rfl (c_L_15 hn hi3 hL (fun x y => (hs' x y).2.2.2.2.2.2.2.2.2.2.2.2.2.2.2.1) go)
        by_cases h16 : j = 16
        · subst h16
          exact l_tabIn (tgt := 462) (off := 430) d_L_32 (by rw [tj]; decide) (by rw [tj]; decide) (by rw [tj]; decide) rfl (c_L_16 hn hi3 hL (fun x y => (hs' x y).2.2.2.2.2.2.2.2.2.2.2.2.2.2.2.2.1) go)
        by_cases h17 : j = 17
        · subst h17
          exact l_tabIn (tgt := 475) (off := 443) d_L_32 (by rw [tj]; decide) (by rw [tj]; decide) (by rw [tj]; decide) rfl (c_L_17 hn hi3 hL (fun x y => (hs' x y).2.2.2.2.2.2.2.2.2.2.2.2.2.2.2.2.2.1) go)
        by_cases h18 : j = 18
        · subst h18
          exact l_tabIn (tgt := 498) (off := 466) d_L_32 (by rw [tj]; decide) (by rw [tj]; decide) (by rw [tj]; decide) rfl (c_L_18 hn hi3 hL (fun x y => (hs' x y).2.2.2.2.2.2.2.2.2.2.2.2.2.2.2.2.2.2) go)
        omega
end LL
theorem lk_L_9 : Cond.methodLink R_law 9 me_A_init.1 ∈ gw := (gw_t1 (List.mem_of_getElem? (i := 16) rfl) rfl)
theorem lk_L_12 : Cond.methodLink R_law 12 me_M_init.1 ∈ gw := (gw_t4 (List.mem_of_getElem? (i := 58) rfl) rfl)
theorem im_A : Cond.instanceMethod me_A_init.1 ∈ gw := (gw_t1 (List.mem_of_getElem? (i := 17) rfl) rfl)
theorem im_M : Cond.instanceMethod me_M_init.1 ∈ gw := (gw_t4 (List.mem_of_getElem? (i := 59) rfl) rfl)
theorem nw_L_7 : Cond.classLink R_law 7 "LineRules" ∈ gw ∧ Cond.instantiable "LineRules" 8 ∈ gw ∧ Cond.initialized "LineRules" ∈ gw := ⟨(gw_t1 (List.mem_of_getElem? (i := 14) rfl) rfl), (gw_t1 (List.mem_of_getElem? (i := 15) rfl) rfl), (gw_t1 (List.mem_of_getElem? (i := 1) rfl) rfl)⟩
theorem nw_L_10 : Cond.classLink R_law 10 "LineRulesModel" ∈ gw ∧ Cond.instantiable "LineRulesModel" 54 ∈ gw ∧ Cond.initialized "LineRulesModel" ∈ gw := ⟨(gw_t4 (List.mem_of_getElem? (i := 56) rfl) rfl), (gw_t4 (List.mem_of_getElem? (i := 57) rfl) rfl), (gw_t1 (List.mem_of_getElem? (i := 10) rfl) rfl)⟩
theorem ki_0 : Cond.instantiable "LineRules" 8 ∈ gw := (gw_t1 (List.mem_of_getElem? (i := 15) rfl) rfl)
theorem ki_1 : Cond.instantiable "LineRules$Text" 9 ∈ gw := (gw_t1 (List.mem_of_getElem? (i := 23) rfl) rfl)
theorem ki_2 : Cond.instantiable "LineRules$Rule" 10 ∈ gw := (gw_t1 (List.mem_of_getElem? (i := 59) rfl) rfl)
theorem ki_3 : Cond.instantiable "LineRules$Ring" 5 ∈ gw := (gw_t1 (List.mem_of_getElem? (i := 127) rfl) rfl)
theorem ki_4 : Cond.instantiable "LineRules$Pairs" 7 ∈ gw := (gw_t1 (List.mem_of_getElem? (i := 153) rfl) rfl)
theorem ki_5 : Cond.instantiable "LineRules$Inverse" 6 ∈ gw := (gw_t1 (List.mem_of_getElem? (i := 181) rfl) rfl)
theorem ki_6 : Cond.instantiable "LineRules$Weights" 6 ∈ gw := (gw_t1 (List.mem_of_getElem? (i := 206) rfl) rfl)
theorem ki_7 : Cond.instantiable "LineRules$Orphan" 10 ∈ gw := (gw_t1 (List.mem_of_getElem? (i := 233) rfl) rfl)
theorem ki_8 : Cond.instantiable "LineRules$Past" 10 ∈ gw := (gw_t2 (List.mem_of_getElem? (i := 30) rfl) rfl)
theorem ki_9 : Cond.instantiable "LineRulesModel" 54 ∈ gw := (gw_t4 (List.mem_of_getElem? (i := 57) rfl) rfl)
theorem gw_ao : Cond.arrayOver (.array .long) ∈ tables_1 := (List.mem_append_left _ (List.mem_of_getElem? (i := 212) rfl))
theorem law_D {s : State} {args : Array Value} (hts : ∀ w ∈ lw_tbl, w.before args s = true) : ∃ D : va_G, ∀ (c : Nat) (q : vw_C), vwCl[c]? = some q → u_Kn s q.1 q.2.1 q.2.2 (D.1 c) (D.2 c) := by
  have hg : ∀ w ∈ gw, w.before args s = true := fun w h => hts w (gw_lw w h)
  have h1 : ∀ c : Nat, ∃ x : ClassId × (Nat → Nat), ∀ q : vw_C, vwCl[c]? = some q → u_Kn s q.1 q.2.1 q.2.2 x.1 x.2 := by
    intro c
    by_cases hc : c < 10
    · rcases (show c = 0 ∨ c = 1 ∨ c = 2 ∨ c = 3 ∨ c = 4 ∨ c = 5 ∨ c = 6 ∨ c = 7 ∨ c = 8 ∨ c = 9 by omega) with h | h | h | h | h | h | h | h | h | h <;> subst h
      · obtain ⟨cC, iS, h⟩ := u_known hg inX0 (hg _ ki_0); exact ⟨(cC, iS), fun q hq => by cases hq; exact h⟩
      · obtain ⟨cC, iS, h⟩ := u_known hg inX1 (hg _ ki_1); exact ⟨(cC, iS), fun q hq => by cases hq; exact h⟩
      · obtain ⟨cC, iS, h⟩ := u_known hg inX2 (hg _ ki_2); exact ⟨(cC, iS), fun q hq => by cases hq; exact h⟩
      · obtain ⟨cC, iS, h⟩ := u_known hg inX3 (hg _ ki_3); exact ⟨(cC, iS), fun q hq => by cases hq; exact h⟩
      · obtain ⟨cC, iS, h⟩ := u_known hg inX4 (hg _ ki_4); exact ⟨(cC, iS), fun q hq => by cases hq; exact h⟩
      · obtain ⟨cC, iS, h⟩ := u_known hg inX5 (hg _ ki_5); exact ⟨(cC, iS), fun q hq => by cases hq; exact h⟩
      · obtain ⟨cC, iS, h⟩ := u_known hg inX6 (hg _ ki_6); exact ⟨(cC, iS), fun q hq => by cases hq; exact h⟩
      · obtain ⟨cC, iS, h⟩ := u_known hg inX7 (hg _ ki_7); exact ⟨(cC, iS), fun q hq => by cases hq; exact h⟩
      · obtain ⟨cC, iS, h⟩ := u_known hg inX8 (hg _ ki_8); exact ⟨(cC, iS), fun q hq => by cases hq; exact h⟩
      · obtain ⟨cC, iS, h⟩ := u_known hg inX9 (hg _ ki_9); exact ⟨(cC, iS), fun q hq => by cases hq; exact h⟩
    · exact ⟨(0, fun _ => 0), fun q hq => by rw [List.getElem?_eq_none (by simp; omega)] at hq; cases hq⟩
  obtain ⟨f, hf⟩ := Classical.axiomOfChoice h1
  exact ⟨(fun c => (f c).1, fun c => (f c).2), hf⟩
theorem law_A {s : State} {args : Array Value} {ty : FieldType} (h : (Cond.arrayClass ty).before args s = true) : ∃ cA : ClassId, ArrOfT s cA ty ∧ s.vm.findClass ("[" ++ ty.toString) = some cA := by
  obtain ⟨cA, k, comp, h1, h2, h3⟩ := Cond.arrayClass_spec h
  exact ⟨cA, fun n z => ⟨fun k h => (by cases h), k, h2, comp, h3⟩, h1⟩
theorem law_K {s : State} {args : Array Value} (hts : ∀ w ∈ lw_tbl, w.before args s = true) : ∃ v : gs_V, ∀ ad : Nat → Nat, gs_K (v.1, v.2.1, ad) s := by
  obtain ⟨D, hD⟩ := law_D hts
  obtain ⟨a0, h0, g0⟩ := law_A (hts _ (gw_lw _ gw_ac_int))
  obtain ⟨a1, h1, g1⟩ := law_A (hts _ (gw_lw _ gw_ac_long))
  obtain ⟨a2, h2, g2⟩ := law_A (hts _ (gw_lw _ gw_ac_boolean))
  obtain ⟨a3, h3, g3⟩ := law_A (hts _ (gw_lw _ gw_ac_char))
  have ho : (Cond.arrayOver (.array .long)).before args s = true := hts _ (List.mem_append_right _ gw_ao)
  obtain ⟨comp, a4, k4, q1, q2, q3, q4, q5⟩ := arrayOverA_spec ho
  refine ⟨(D, (fun t => match t with | 0 => a0 | 1 => a1 | 2 => a2 | 3 => a3 | _ => a4), fun _ => 0), fun ad => ⟨⟨hD, ?_⟩, fun q hq => va_Nw.of rfl (hts _ (List.mem_append_right _ (gw_nt q hq))), ho⟩⟩
  intro k q hk
  have hk5 : k < 5 := (List.getElem?_eq_some_iff.mp hk).1
  rcases (show k = 0 ∨ k = 1 ∨ k = 2 ∨ k = 3 ∨ k = 4 by omega) with h | h | h | h | h <;> subst h <;> cases hk
  · exact ⟨h0, g0⟩
  · exact ⟨h1, g1⟩
  · exact ⟨h2, g2⟩
  · exact ⟨h3, g3⟩
  · exact ⟨fun n z => ⟨fun k h => (by cases h), k4, q3, comp, q4⟩, q5⟩
set_option maxRecDepth 100000 in
set_option maxHeartbeats 4000000 in
theorem whole_W {Rel : Nat → gs_S → gs_S → Prop} {p : Program} {e : Env} {s : State} {m : MethodId} {below : List Frame} {meth : Method} {c : Code} (l : Launch) {b L : Nat} {xs : Nat → Int32} (hL : L < 2 ^ 30) (h0 : Rel 0 sgC sgM) (hst : ∀ (v1 v2 : gs_V) i σ1 σ2, 3 * i + 3 ≤ L → Rel i σ1 σ2 → lSt l v1 v2 1000 σ1 σ2 (Rel (i + 1))) (C0 : lw_At p s m meth c b L xs) : W p l e room_1 s m #[Value.ref b] below meth c s.heap [] 0 0 (lw_Z below #[Value.ref b] s) (entryFrame m ([Value.ref b] : List Value).toArray 4) := by
  have C := C0
  obtain ⟨hx, hb, hr, hml, hown, hts, hX, hbl, hlk, -⟩ := C0
  obtain ⟨v0, hK0⟩ := law_K hts
  have hgs : ∀ w ∈ gw, w.before #[Value.ref b] s = true := fun w h => hts w (gw_lw w h)
  have hA : ∀ q, s.heap.size ≤ q → lA s q := fun q h => h
  have hS : va_S (lA s) s.heap s.heap [] := va_S.rf
  have hPe : va_P v0.1 vwCl [] s.heap := fun k q hk => by simp at hk
  have hDe : va_D (lA s) [] := ⟨fun i j p q hi => by simp at hi, fun k q hk => by simp at hk⟩
  have hl := lv_entry ([.ref b]) (n := 4) (Nat.le_of_ble_eq_true rfl)
  rw [lg_entry_eq]
  generalize (lg_sl ([.ref b]) ++ List.replicate (4 - (lg_sl ([.ref b])).length) Slot.unset).toArray = ls at hl ⊢
  have hl : lv_has ls 4 [(0, .ref b)] := hl
  have hK00 : va_K v0.1 vwCl (gs_t v0) s := (hK0 v0.2.2).1
  refine va_new (ci := 0) (fs := [.null, .null, .null, .null, .null, .null, .null, .null]) (C := "LineRules") (T := TX0) (N := 8) hx hb hgs inX0 tyX0 tyX0_ok hown (hgs _ nw_L_7.1) (hgs _ nw_L_7.2.1) (hgs _ nw_L_7.2.2) hK00 hPe hDe hS hA rfl (by decide +kernel) (by decide +kernel) (by decide +kernel) d_L_0 (fun q0 H hP hD hS => ?_)
  have hP : va_P v0.1 vwCl [(q0, .inr (0, [.null, .null, .null, .null, .null, .null, .null, .null]))] H := hP
  have hD : va_D (lA s) [(q0, .inr (0, [.null, .null, .null, .null, .null, .null, .null, .null]))] := hD
  refine lv_dup hx hb d_L_3 rfl ?_
  have hFc := va_free (wc := [(q0, .inr (0, [.null, .null, .null, .null, .null, .null, .null, .null]))]) hD hS hA [0] rfl
  have cb : CallB room_1 s #[Value.ref b] R_law 9 me_A_init.1 me_A_init.2.1 me_A_init.2.2.1 none (gs_h me_A_init :: gw) rm_A 41 4809 0 := callB_of 0 hts (lw_good Y_A_init.1) rfl rfl rfl (hgs _ Y_A_init.2.1) (hgs _ lk_L_9) Y_A_init.2.2.1 ⟨by decide +kernel, by decide +kernel⟩
  refine va_callv (va_runI (As := []) (rest := [.ref q0]) (b := q0) ⟨hx, hb, hml, hown, hts⟩ ((N_A (l := l) (v := v0) (h0 := q0)) H.size) ⟨cb, rfl, hgs _ im_A⟩ ⟨n_blind, fun U hU hW => ⟨rfl, by rw [hU], by rw [hU]; exact hP, gs_K_warm hW (hK0 v0.2.2), hD.weaken (fun _ _ _ _ => trivial)⟩⟩ rfl rfl hl.1 rfl (lv_room (Nat.le_of_ble_eq_true rfl)) d_L_4 ⟨by decide +kernel, by decide +kernel⟩) hS (fun q _ h => hFc q h) hFc (fun u1 t H1 locs1 ht hvm _ hB hz1 hk1 hS => ?_)
  rw [ht] at hB
  obtain ⟨hP1, hD1⟩ := hB
  have hD1 : va_D (lA s) (gs_w (v0.1, v0.2.1, gs_ad q0 u1) lyC 42 sgC) := hD1.weaken (fun _ _ _ h => hFc _ h)
  clear hP hD hFc hk1 hz1 cb
  generalize H1 = H at hP1 hS ⊢
  refine lv_astore_n (lv' := [(1, .ref q0), (0, .ref b)]) hx hb d_L_7 rfl hl (by decide) rfl (fun ls hl => ?_)
  refine va_new (ci := 9) (fs := [.int 0, .null, .int 0, .int 0, .int 0, .int 0, .null, .int 0, .null, .null, .int 0, .int 0, .int 0, .int 0, .null, .null, .null, .null, .null, .null, .null, .null, .null, .null, .null, .null, .null, .null, .int 0, .int 0, .null, .int 0, .int 0, .int 0, .null, .int 0, .int 0, .null, .null, .null, .null, .int 0, .int 0, .null, .null, .null, .null, .int 0, .int 0, .long 0, .null, .null, .null, .null]) (C := "LineRulesModel") (T := TX9) (N := 54) hx hb hgs inX9 tyX9 tyX9_ok hown (hgs _ nw_L_10.1) (hgs _ nw_L_10.2.1) (hgs _ nw_L_10.2.2) hK00 hP1 hD1 hS hA rfl (by decide +kernel) (by decide +kernel) (by decide +kernel) d_L_8 (fun q8 H' hP hD hS => ?_)
  have hlen : (gs_w (v0.1, v0.2.1, gs_ad q0 u1) lyC 42 sgC).length = 42 := gs_w_len
  have hlast : (gs_w (v0.1, v0.2.1, gs_ad q0 u1) lyC 42 sgC ++ [(q8, .inr (9, [.int 0, .null, .int 0, .int 0, .int 0, .int 0, .null, .int 0, .null, .null, .int 0, .int 0, .int 0, .int 0, .null, .null, .null, .null, .null, .null, .null, .null, .null, .null, .null, .null, .null, .null, .int 0, .int 0, .null, .int 0, .int 0, .int 0, .null, .int 0, .int 0, .null, .null, .null, .null, .int 0, .int 0, .null, .null, .null, .null, .int 0, .int 0, .long 0, .null, .null, .null, .null]))])[42]? = some (q8, .inr (9, [.int 0, .null, .int 0, .int 0, .int 0, .int 0, .null, .int 0, .null, .null, .int 0, .int 0, .int 0, .int 0, .null, .null, .null, .null, .null, .null, .null, .null, .null, .null, .null, .null, .null, .null, .int 0, .int 0, .null, .int 0, .int 0, .int 0, .null, .int 0, .int 0, .null, .null, .null, .null, .int 0, .int 0, .null, .null, .null, .null, .int 0, .int 0, .long 0, .null, .null, .null, .null])) := by
    rw [List.getElem?_append_right (by rw [hlen]; exact Nat.le_refl _), hlen]; rfl
  have hfst : ∀ (k : Nat) (x : Nat × va_E), (gs_w (v0.1, v0.2.1, gs_ad q0 u1) lyC 42 sgC)[k]? = some x → (gs_w (v0.1, v0.2.1, gs_ad q0 u1) lyC 42 sgC ++ [(q8, .inr (9, [.int 0, .null, .int 0, .int 0, .int 0, .int 0, .null, .int 0, .null, .null, .int 0, .int 0, .int 0, .int 0, .null, .null, .null, .null, .null, .null, .null, .null, .null, .null, .null, .null, .null, .null, .int 0, .int 0, .null, .int 0, .int 0, .int 0, .null, .int 0, .int 0, .null, .null, .null, .null, .int 0, .int 0, .null, .null, .null, .null, .int 0, .int 0, .long 0, .null, .null, .null, .null]))])[k]? = some x := fun k x hk => by
    rw [List.getElem?_append_left (List.getElem?_eq_some_iff.mp hk).1]; exact hk
  have hPC : va_P v0.1 vwCl (gs_w (v0.1, v0.2.1, gs_ad q0 u1) lyC 42 sgC) H' := fun k x hk => hP k x (hfst k x hk)
  have hne : ∀ (k : Nat) (x : Nat × va_E), (gs_w (v0.1, v0.2.1, gs_ad q0 u1) lyC 42 sgC)[k]? = some x → x.1 ≠ q8 := fun k x hk e => by
    have := hD.1 k 42 x _ (hfst k x hk) hlast e
    have h2 := (List.getElem?_eq_some_iff.mp hk).1
    omega
  have hP8 : va_P v0.1 vwCl [(q8, .inr (9, [.int 0, .null, .int 0, .int 0, .int 0, .int 0, .null, .int 0, .null, .null, .int 0, .int 0, .int 0, .int 0, .null, .null, .null, .null, .null, .null, .null, .null, .null, .null, .null, .null, .null, .null, .int 0, .int 0, .null, .int 0, .int 0, .int 0, .null, .int 0, .int 0, .null, .null, .null, .null, .int 0, .int 0, .null, .null, .null, .null, .int 0, .int 0, .long 0, .null, .null, .null, .null]))] H' := fun k x hk => by
    have h9 : k < 1 := (List.getElem?_eq_some_iff.mp hk).1
    rw [show k = 0 by omega] at hk
    cases hk
    exact hP 42 _ hlast
  have hD8 : va_D (lA s) [(q8, .inr (9, [.int 0, .null, .int 0, .int 0, .int 0, .int 0, .null, .int 0, .null, .null, .int 0, .int 0, .int 0, .int 0, .null, .null, .null, .null, .null, .null, .null, .null, .null, .null, .null, .null, .null, .null, .int 0, .int 0, .null, .int 0, .int 0, .int 0, .null, .int 0, .int 0, .null, .null, .null, .null, .int 0, .int 0, .null, .null, .null, .null, .int 0, .int 0, .long 0, .null, .null, .null, .null]))] := ⟨fun i j x y hi hj _ => by
    have h9 : i < 1 := (List.getElem?_eq_some_iff.mp hi).1
    have h8 : j < 1 := (List.getElem?_eq_some_iff.mp hj).1
    omega, fun k x hk => by
    have h9 : k < 1 := (List.getElem?_eq_some_iff.mp hk).1
    rw [show k = 0 by omega] at hk
    cases hk
    exact hD.2 42 _ hlast⟩
  refine lv_dup hx hb d_L_11 rfl ?_
  have hFc := va_free (wc := [(q8, .inr (9, [.int 0, .null, .int 0, .int 0, .int 0, .int 0, .null, .int 0, .null, .null, .int 0, .int 0, .int 0, .int 0, .null, .null, .null, .null, .null, .null, .null, .null, .null, .null, .null, .null, .null, .null, .int 0, .int 0, .null, .int 0, .int 0, .int 0, .null, .int 0, .int 0, .null, .null, .null, .null, .int 0, .int 0, .null, .null, .null, .null, .int 0, .int 0, .long 0, .null, .null, .null, .null]))]) hD8 hS hA [0] rfl
  have cb : CallB room_1 s #[Value.ref b] R_law 12 me_M_init.1 me_M_init.2.1 me_M_init.2.2.1 none (gs_h me_M_init :: gw) rm_M 32 7965 0 := callB_of 0 hts (lw_good Y_M_init.1) rfl rfl rfl (hgs _ Y_M_init.2.1) (hgs _ lk_L_12) Y_M_init.2.2.1 ⟨by decide +kernel, by decide +kernel⟩
  refine va_callv (va_runI (As := []) (rest := [.ref q8]) (b := q8) ⟨hx, hb, hml, hown, hts⟩ ((N_M (l := l) (v := v0) (h0 := q8)) H'.size) ⟨cb, rfl, hgs _ im_M⟩ ⟨n_blind, fun U hU hW => ⟨rfl, by rw [hU], by rw [hU]; exact hP8, gs_K_warm hW (hK0 v0.2.2), hD8.weaken (fun _ _ _ _ => trivial)⟩⟩ rfl rfl hl.1 rfl (lv_room (Nat.le_of_ble_eq_true rfl)) d_L_12 ⟨by decide +kernel, by decide +kernel⟩) hS (fun q _ h => hFc q h) hFc (fun u2 t H2 locs2 ht hvm _ hB hz1 hk1 hS => ?_)
  rw [ht] at hB
  obtain ⟨hP2, hD2'⟩ := hB
  have hD2 : va_D (lA s) (gs_w (v0.1, v0.2.1, gs_ad q8 u2) lyM 33 sgM) := hD2'.weaken (fun _ _ _ h => hFc _ h)
  have hPC2 : va_P v0.1 vwCl (gs_w (v0.1, v0.2.1, gs_ad q0 u1) lyC 42 sgC) H2 := hPC.kept (fun k x hk => by
    refine hk1 _ (hPC k x hk).lt (fun hA => ?_)
    rcases hA with ⟨j, e', hj⟩ | hA
    · have h9 : j < 1 := (List.getElem?_eq_some_iff.mp hj).1
      rw [show j = 0 by omega] at hj
      have e9 := congrArg (fun z : Option (Nat × va_E) => z.map Prod.fst) hj
      exact hne k x hk (Option.some.inj e9).symm
    · exact Nat.lt_irrefl _ (Nat.lt_of_lt_of_le (hPC k x hk).lt hA))
  have hap : ∀ i, i < 42 → ∀ j, j < 33 → gs_ad q0 u1 i ≠ gs_ad q8 u2 j := by
    intro i hi j hj e9
    have gi := gs_w_get (v := (v0.1, v0.2.1, gs_ad q0 u1)) (ly := lyC) (σ := sgC) hi
    have gj := gs_w_get (v := (v0.1, v0.2.1, gs_ad q8 u2)) (ly := lyM) (σ := sgM) hj
    have ha := hD2'.2 j _ gj
    have hlt := (hPC i _ gi).lt
    rcases ha with ⟨j2, e', hj2⟩ | ha
    · have h9 : j2 < 1 := (List.getElem?_eq_some_iff.mp hj2).1
      rw [show j2 = 0 by omega] at hj2
      have e8 := congrArg (fun z : Option (Nat × va_E) => z.map Prod.fst) hj2
      have e7 : q8 = gs_ad q8 u2 j := Option.some.inj e8
      exact hne i _ gi (e9.trans e7.symm)
    · have hlt' : gs_ad q0 u1 i < H'.size := hlt
      have ha' : H'.size ≤ gs_ad q8 u2 j := ha
      omega
  refine lv_astore_n (lv' := [(2, .ref q8), (1, .ref q0), (0, .ref b)]) hx hb d_L_15 rfl hl (by decide) rfl (fun ls hl => ?_)
  refine lv_iconst (v := 0) hx hb d_L_16 (by decide) ?_
  refine lv_istore_n (lv' := [(3, .int 0), (2, .ref q8), (1, .ref q0), (0, .ref b)]) hx hb d_L_17 rfl hl (by decide) rfl (fun ls hl => ?_)
  have hl : lv_has ls 4 [(0, .ref b), (1, .ref (((v0.1, v0.2.1, gs_ad q0 u1) : gs_V).2.2 0)), (2, .ref (((v0.1, v0.2.1, gs_ad q8 u2) : gs_V).2.2 0)), (3, .int (nI (3 * 0)))] := lv_sub hl [3, 2, 1, 0] rfl
  exact l_loop (Rel := Rel) (n := 1000) (v1 := (v0.1, v0.2.1, gs_ad q0 u1)) (v2 := (v0.1, v0.2.1, gs_ad q8 u2)) (by decide) hL (hst _ _) L 0 sgC sgM (by omega) (by omega) h0 p e s m below meth c ⟨C, hK0 _, hK0 _, fun σ => gs_D hD1, fun σ => gs_D hD2, hap⟩ ls H2 locs2 hl hPC2 hP2 hS
