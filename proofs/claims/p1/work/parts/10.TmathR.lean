/-! java/util/Arrays.fill -/
theorem d_Y_fillI_0 : decode me_Y_fillI.2.1 0 = .ok (.iconst 0, 1) := by decide +kernel
theorem d_Y_fillI_1 : decode me_Y_fillI.2.1 1 = .ok (.istore_n 2, 1) := by decide +kernel
theorem d_Y_fillI_2 : decode me_Y_fillI.2.1 2 = .ok (.aload_n 0, 1) := by decide +kernel
theorem d_Y_fillI_3 : decode me_Y_fillI.2.1 3 = .ok (.arraylength, 1) := by decide +kernel
theorem d_Y_fillI_4 : decode me_Y_fillI.2.1 4 = .ok (.istore_n 3, 1) := by decide +kernel
theorem d_Y_fillI_5 : decode me_Y_fillI.2.1 5 = .ok (.iload_n 2, 1) := by decide +kernel
theorem d_Y_fillI_6 : decode me_Y_fillI.2.1 6 = .ok (.iload_n 3, 1) := by decide +kernel
theorem d_Y_fillI_7 : decode me_Y_fillI.2.1 7 = .ok (.if_icmp .ge 13, 3) := by decide +kernel
theorem d_Y_fillI_10 : decode me_Y_fillI.2.1 10 = .ok (.aload_n 0, 1) := by decide +kernel
theorem d_Y_fillI_11 : decode me_Y_fillI.2.1 11 = .ok (.iload_n 2, 1) := by decide +kernel
theorem d_Y_fillI_12 : decode me_Y_fillI.2.1 12 = .ok (.iload_n 1, 1) := by decide +kernel
theorem d_Y_fillI_13 : decode me_Y_fillI.2.1 13 = .ok (.iastore, 1) := by decide +kernel
theorem d_Y_fillI_14 : decode me_Y_fillI.2.1 14 = .ok (.iinc 2 1, 3) := by decide +kernel
theorem d_Y_fillI_17 : decode me_Y_fillI.2.1 17 = .ok (.goto (-12), 3) := by decide +kernel
theorem d_Y_fillI_20 : decode me_Y_fillI.2.1 20 = .ok (.return_, 1) := by decide +kernel
abbrev G_Y_fillI_0 (l : Launch) (v : gs_V) (n : Nat) (post : gs_S → Prop) (σ : gs_S) (x0 : Nat) (x1 : Int32) : Prop := gG l v lyC 42 me_Y_fillI n (qV v lyC 42 post) 0 [(0, .ref (v.2.2 x0)), (1, .int x1)] [] σ
abbrev G_Y_fillI_5 (l : Launch) (v : gs_V) (n : Nat) (post : gs_S → Prop) (σ : gs_S) (x0 : Nat) (x1 : Int32) (x2 : Int32) (x3 : Int32) : Prop := gG l v lyC 42 me_Y_fillI n (qV v lyC 42 post) 5 [(0, .ref (v.2.2 x0)), (1, .int x1), (2, .int x2), (3, .int x3)] [] σ
set_option maxRecDepth 20000 in
set_option maxHeartbeats 1000000 in
theorem T_Y_fillI_0 {l : Launch} {v : gs_V} {n : Nat} {post : gs_S → Prop} {σ : gs_S} {x0 : Nat} {x1 : Int32} {len : Nat} (hx0 : x0 < 42 ∧ lyC x0 = .inl (0, len, 0)) (h : G_Y_fillI_5 l v n post σ x0 x1 0 (Int32.ofNat len)) : G_Y_fillI_0 l v n post σ x0 x1 := by
  refine g_iconst d_Y_fillI_0 (x := 0) (by decide) ?_
  refine g_istore_n (L' := [(2, .int 0), (0, .ref (v.2.2 x0)), (1, .int x1)]) d_Y_fillI_1 rfl (by decide) rfl ?_
  refine g_aload_n d_Y_fillI_2 1 rfl rfl ?_
  refine g_alen (x := Int32.ofNat len) d_Y_fillI_3 hx0.1 hx0.2 (by decide) (by rfl) ?_
  refine g_istore_n (L' := [(3, .int (Int32.ofNat len)), (2, .int 0), (0, .ref (v.2.2 x0)), (1, .int x1)]) d_Y_fillI_4 rfl (by decide) rfl ?_
  exact g_sub [2, 3, 1, 0] rfl h
set_option maxRecDepth 20000 in
set_option maxHeartbeats 1000000 in
theorem T_Y_fillI_5 {l : Launch} {v : gs_V} {n : Nat} {post : gs_S → Prop} {σ : gs_S} {x0 : Nat} {x1 : Int32} {x2 : Int32} {x3 : Int32} {len : Nat} (hx0 : x0 < 42 ∧ lyC x0 = .inl (0, len, 0)) (h : ((x3 ≤ x2 → post σ) ∧ (¬ x3 ≤ x2 → vp_in x2 len ∧ G_Y_fillI_5 l v n post (gs_pI σ x0 x2.toNatClampNeg x1) x0 x1 (x2 + 1) x3))) : G_Y_fillI_5 l v n post σ x0 x1 x2 x3 := by
  refine g_iload_n d_Y_fillI_5 2 rfl rfl ?_
  refine g_iload_n d_Y_fillI_6 3 rfl rfl ?_
  refine g_icmp_ge (tgt := 20) d_Y_fillI_7 rfl (fun hc => ?_) (fun hc => ?_)
  · have h := h.1 hc
    exact g_vret d_Y_fillI_20 rfl h
  · have h := h.2 hc
    refine g_aload_n d_Y_fillI_10 0 rfl rfl ?_
    refine g_iload_n d_Y_fillI_11 2 rfl rfl ?_
    refine g_iload_n d_Y_fillI_12 1 rfl rfl ?_
    have hi1 := h.1
    have h := h.2
    refine g_iast d_Y_fillI_13 hx0.1 hx0.2 hi1 ?_
    refine g_iinc (L' := [(2, .int (x2 + 1)), (0, .ref (v.2.2 x0)), (1, .int x1), (3, .int x3)]) d_Y_fillI_14 2 rfl (by rfl) (by decide) rfl ?_
    refine g_goto (tgt := 5) d_Y_fillI_17 rfl ?_
    exact g_sub [1, 2, 0, 3] rfl h
theorem E_Y_fillI {l : Launch} {v : gs_V} {n : Nat} {post : gs_S → Prop} {σ : gs_S} {x0 : Nat} {x1 : Int32} (h : G_Y_fillI_0 l v n post σ x0 x1) : gM l v lyC 42 me_Y_fillI (n + 1) [.ref (v.2.2 x0), .int x1] σ (qV v lyC 42 post) := gM_of (by decide +kernel) (Nat.le_of_ble_eq_true rfl) h
/-! java/util/Arrays.fill -/
theorem d_Y_fillJ_0 : decode me_Y_fillJ.2.1 0 = .ok (.iconst 0, 1) := by decide +kernel
theorem d_Y_fillJ_1 : decode me_Y_fillJ.2.1 1 = .ok (.istore_n 3, 1) := by decide +kernel
theorem d_Y_fillJ_2 : decode me_Y_fillJ.2.1 2 = .ok (.aload_n 0, 1) := by decide +kernel
theorem d_Y_fillJ_3 : decode me_Y_fillJ.2.1 3 = .ok (.arraylength, 1) := by decide +kernel
theorem d_Y_fillJ_4 : decode me_Y_fillJ.2.1 4 = .ok (.istore 4, 2) := by decide +kernel
theorem d_Y_fillJ_6 : decode me_Y_fillJ.2.1 6 = .ok (.iload_n 3, 1) := by decide +kernel
theorem d_Y_fillJ_7 : decode me_Y_fillJ.2.1 7 = .ok (.iload 4, 2) := by decide +kernel
theorem d_Y_fillJ_9 : decode me_Y_fillJ.2.1 9 = .ok (.if_icmp .ge 13, 3) := by decide +kernel
theorem d_Y_fillJ_12 : decode me_Y_fillJ.2.1 12 = .ok (.aload_n 0, 1) := by decide +kernel
theorem d_Y_fillJ_13 : decode me_Y_fillJ.2.1 13 = .ok (.iload_n 3, 1) := by decide +kernel
theorem d_Y_fillJ_14 : decode me_Y_fillJ.2.1 14 = .ok (.lload_n 1, 1) := by decide +kernel
theorem d_Y_fillJ_15 : decode me_Y_fillJ.2.1 15 = .ok (.lastore, 1) := by decide +kernel
theorem d_Y_fillJ_16 : decode me_Y_fillJ.2.1 16 = .ok (.iinc 3 1, 3) := by decide +kernel
theorem d_Y_fillJ_19 : decode me_Y_fillJ.2.1 19 = .ok (.goto (-13), 3) := by decide +kernel
theorem d_Y_fillJ_22 : decode me_Y_fillJ.2.1 22 = .ok (.return_, 1) := by decide +kernel
abbrev G_Y_fillJ_0 (l : Launch) (v : gs_V) (n : Nat) (post : gs_S → Prop) (σ : gs_S) (x0 : Nat) (x1 : Int64) : Prop := gG l v lyC 42 me_Y_fillJ n (qV v lyC 42 post) 0 [(0, .ref (v.2.2 x0)), (1, .long x1)] [] σ
abbrev G_Y_fillJ_6 (l : Launch) (v : gs_V) (n : Nat) (post : gs_S → Prop) (σ : gs_S) (x0 : Nat) (x1 : Int64) (x3 : Int32) (x4 : Int32) : Prop := gG l v lyC 42 me_Y_fillJ n (qV v lyC 42 post) 6 [(0, .ref (v.2.2 x0)), (1, .long x1), (3, .int x3), (4, .int x4)] [] σ
set_option maxRecDepth 20000 in
set_option maxHeartbeats 1000000 in
theorem T_Y_fillJ_0 {l : Launch} {v : gs_V} {n : Nat} {post : gs_S → Prop} {σ : gs_S} {x0 : Nat} {x1 : Int64} {len : Nat} (hx0 : x0 < 42 ∧ lyC x0 = .inl (1, len, 0)) (h : G_Y_fillJ_6 l v n post σ x0 x1 0 (Int32.ofNat len)) : G_Y_fillJ_0 l v n post σ x0 x1 := by
  refine g_iconst d_Y_fillJ_0 (x := 0) (by decide) ?_
  refine g_istore_n (L' := [(3, .int 0), (0, .ref (v.2.2 x0)), (1, .long x1)]) d_Y_fillJ_1 rfl (by decide) rfl ?_
  refine g_aload_n d_Y_fillJ_2 1 rfl rfl ?_
  refine g_alen (x := Int32.ofNat len) d_Y_fillJ_3 hx0.1 hx0.2 (by decide) (by rfl) ?_
  refine g_istore (L' := [(4, .int (Int32.ofNat len)), (3, .int 0), (0, .ref (v.2.2 x0)), (1, .long x1)]) d_Y_fillJ_4 (by decide) rfl ?_
  exact g_sub [2, 3, 1, 0] rfl h
set_option maxRecDepth 20000 in
set_option maxHeartbeats 1000000 in
theorem T_Y_fillJ_6 {l : Launch} {v : gs_V} {n : Nat} {post : gs_S → Prop} {σ : gs_S} {x0 : Nat} {x1 : Int64} {x3 : Int32} {x4 : Int32} {len : Nat} (hx0 : x0 < 42 ∧ lyC x0 = .inl (1, len, 0)) (h : ((x4 ≤ x3 → post σ) ∧ (¬ x4 ≤ x3 → vp_in x3 len ∧ G_Y_fillJ_6 l v n post (gs_pL σ x0 x3.toNatClampNeg x1) x0 x1 (x3 + 1) x4))) : G_Y_fillJ_6 l v n post σ x0 x1 x3 x4 := by
  refine g_iload_n d_Y_fillJ_6 2 rfl rfl ?_
  refine g_iload d_Y_fillJ_7 3 rfl ?_
  refine g_icmp_ge (tgt := 22) d_Y_fillJ_9 rfl (fun hc => ?_) (fun hc => ?_)
  · have h := h.1 hc
    exact g_vret d_Y_fillJ_22 rfl h
  · have h := h.2 hc
    refine g_aload_n d_Y_fillJ_12 0 rfl rfl ?_
    refine g_iload_n d_Y_fillJ_13 2 rfl rfl ?_
    refine g_lload_n d_Y_fillJ_14 1 rfl rfl ?_
    have hi1 := h.1
    have h := h.2
    refine g_last d_Y_fillJ_15 hx0.1 hx0.2 hi1 ?_
    refine g_iinc (L' := [(3, .int (x3 + 1)), (0, .ref (v.2.2 x0)), (1, .long x1), (4, .int x4)]) d_Y_fillJ_16 2 rfl (by rfl) (by decide) rfl ?_
    refine g_goto (tgt := 6) d_Y_fillJ_19 rfl ?_
    exact g_sub [1, 2, 0, 3] rfl h
theorem E_Y_fillJ {l : Launch} {v : gs_V} {n : Nat} {post : gs_S → Prop} {σ : gs_S} {x0 : Nat} {x1 : Int64} (h : G_Y_fillJ_0 l v n post σ x0 x1) : gM l v lyC 42 me_Y_fillJ (n + 1) [.ref (v.2.2 x0), .long x1] σ (qV v lyC 42 post) := gM_of (by decide +kernel) (Nat.le_of_ble_eq_true rfl) h
/-! LineRules$Rule.hasState -/
theorem d_R_hasState_0 : decode me_R_hasState.2.1 0 = .ok (.iload_n 1, 1) := by decide +kernel
theorem d_R_hasState_1 : decode me_R_hasState.2.1 1 = .ok (.ifCond .lt 15, 3) := by decide +kernel
theorem d_R_hasState_4 : decode me_R_hasState.2.1 4 = .ok (.iload_n 1, 1) := by decide +kernel
theorem d_R_hasState_5 : decode me_R_hasState.2.1 5 = .ok (.aload_n 0, 1) := by decide +kernel
theorem d_R_hasState_6 : decode me_R_hasState.2.1 6 = .ok (.getfield 32, 3) := by decide +kernel
theorem d_R_hasState_9 : decode me_R_hasState.2.1 9 = .ok (.if_icmp .ge 7, 3) := by decide +kernel
theorem d_R_hasState_12 : decode me_R_hasState.2.1 12 = .ok (.iconst 1, 1) := by decide +kernel
theorem d_R_hasState_13 : decode me_R_hasState.2.1 13 = .ok (.goto 4, 3) := by decide +kernel
theorem d_R_hasState_16 : decode me_R_hasState.2.1 16 = .ok (.iconst 0, 1) := by decide +kernel
theorem d_R_hasState_17 : decode me_R_hasState.2.1 17 = .ok (.ireturn, 1) := by decide +kernel
abbrev G_R_hasState_0 (l : Launch) (v : gs_V) (n : Nat) (post : Int32 → gs_S → Prop) (σ : gs_S) (x1 : Int32) : Prop := gG l v lyC 42 me_R_hasState n (qI v lyC 42 post) 0 [(0, .ref (v.2.2 4)), (1, .int x1)] [] σ
abbrev G_R_hasState_16 (l : Launch) (v : gs_V) (n : Nat) (post : Int32 → gs_S → Prop) (σ : gs_S) : Prop := gG l v lyC 42 me_R_hasState n (qI v lyC 42 post) 16 [] [] σ
abbrev G_R_hasState_17 (l : Launch) (v : gs_V) (n : Nat) (post : Int32 → gs_S → Prop) (σ : gs_S) (s0 : Int32) : Prop := gG l v lyC 42 me_R_hasState n (qI v lyC 42 post) 17 [] [.int s0] σ
set_option maxRecDepth 20000 in
set_option maxHeartbeats 1000000 in
theorem T_R_hasState_0 {l : Launch} {v : gs_V} {n : Nat} {post : Int32 → gs_S → Prop} {σ : gs_S} {x1 : Int32} (h : ((x1 < 0 → G_R_hasState_16 l v n post σ) ∧ (¬ x1 < 0 → (((σ.1 4 6) ≤ x1 → G_R_hasState_16 l v n post σ) ∧ (¬ (σ.1 4 6) ≤ x1 → G_R_hasState_17 l v n post σ 1))))) : G_R_hasState_0 l v n post σ x1 := by
  refine g_iload_n d_R_hasState_0 1 rfl rfl ?_
  refine g_if_lt (tgt := 16) d_R_hasState_1 rfl (fun hc => ?_) (fun hc => ?_)
  · have h := h.1 hc
    exact g_sub [] rfl h
  · have h := h.2 hc
    refine g_iload_n d_R_hasState_4 1 rfl rfl ?_
    refine g_aload_n d_R_hasState_5 0 rfl rfl ?_
    refine g_getV (x := .int (σ.1 4 6)) d_R_hasState_6 fl_R_32 (by decide) rfl rfl rfl ?_
    refine g_icmp_ge (tgt := 16) d_R_hasState_9 rfl (fun hc => ?_) (fun hc => ?_)
    · have h := h.1 hc
      exact g_sub [] rfl h
    · have h := h.2 hc
      refine g_iconst d_R_hasState_12 (x := 1) (by decide) ?_
      refine g_goto (tgt := 17) d_R_hasState_13 rfl ?_
      exact g_sub [] rfl h
set_option maxRecDepth 20000 in
set_option maxHeartbeats 1000000 in
theorem T_R_hasState_16 {l : Launch} {v : gs_V} {n : Nat} {post : Int32 → gs_S → Prop} {σ : gs_S} (h : G_R_hasState_17 l v n post σ 0) : G_R_hasState_16 l v n post σ := by
  refine g_iconst d_R_hasState_16 (x := 0) (by decide) ?_
  exact h
set_option maxRecDepth 20000 in
set_option maxHeartbeats 1000000 in
theorem T_R_hasState_17 {l : Launch} {v : gs_V} {n : Nat} {post : Int32 → gs_S → Prop} {σ : gs_S} {s0 : Int32} (h : narrow .boolean (.int s0) = .int s0 ∧ post s0 σ) : G_R_hasState_17 l v n post σ s0 := by
  exact g_zret d_R_hasState_17 rfl h.1 h.2
theorem E_R_hasState {l : Launch} {v : gs_V} {n : Nat} {post : Int32 → gs_S → Prop} {σ : gs_S} {x1 : Int32} (h : G_R_hasState_0 l v n post σ x1) : gM l v lyC 42 me_R_hasState (n + 1) [.ref (v.2.2 4), .int x1] σ (qI v lyC 42 post) := gM_of (by decide +kernel) (Nat.le_of_ble_eq_true rfl) h
/-! LineRules$Ring.clear -/
theorem d_C_clear_0 : decode me_C_clear.2.1 0 = .ok (.aload_n 0, 1) := by decide +kernel
theorem d_C_clear_1 : decode me_C_clear.2.1 1 = .ok (.getfield 9, 3) := by decide +kernel
theorem d_C_clear_4 : decode me_C_clear.2.1 4 = .ok (.iconst 0, 1) := by decide +kernel
theorem d_C_clear_5 : decode me_C_clear.2.1 5 = .ok (.invokestatic 32, 3) := by decide +kernel
theorem d_C_clear_8 : decode me_C_clear.2.1 8 = .ok (.return_, 1) := by decide +kernel
abbrev G_C_clear_0 (l : Launch) (v : gs_V) (n : Nat) (post : gs_S → Prop) (σ : gs_S) : Prop := gG l v lyC 42 me_C_clear n (qV v lyC 42 post) 0 [(0, .ref (v.2.2 10))] [] σ
set_option maxRecDepth 20000 in
set_option maxHeartbeats 1000000 in
theorem T_C_clear_0 {l : Launch} {v : gs_V} {n : Nat} {post : gs_S → Prop} {σ : gs_S} (h : gM l v lyC 42 me_Y_fillI n [.ref (v.2.2 11), .int 0] σ (qV v lyC 42 (fun σ1 => post σ1))) : G_C_clear_0 l v n post σ := by
  refine g_aload_n d_C_clear_0 0 rfl rfl ?_
  refine g_getV (x := .ref (v.2.2 11)) d_C_clear_1 fl_C_9 (by decide) rfl rfl rfl ?_
  refine g_iconst d_C_clear_4 (x := 0) (by decide) ?_
  refine g_callSv (av := [.ref (v.2.2 11), .int 0]) (rest := []) d_C_clear_5 Y_Y_fillI lk_C_32 I_Y_fillI rfl (Nat.le_of_ble_eq_true rfl) rfl h (fun σ1 h => ?_)
  exact g_vret d_C_clear_8 rfl h
theorem E_C_clear {l : Launch} {v : gs_V} {n : Nat} {post : gs_S → Prop} {σ : gs_S} (h : G_C_clear_0 l v n post σ) : gM l v lyC 42 me_C_clear (n + 1) [.ref (v.2.2 10)] σ (qV v lyC 42 post) := gM_of (by decide +kernel) (Nat.le_of_ble_eq_true rfl) h
/-! LineRules$Ring.has -/
theorem d_C_has_0 : decode me_C_has.2.1 0 = .ok (.iload_n 1, 1) := by decide +kernel
theorem d_C_has_1 : decode me_C_has.2.1 1 = .ok (.ifCond .lt 15, 3) := by decide +kernel
theorem d_C_has_4 : decode me_C_has.2.1 4 = .ok (.iload_n 1, 1) := by decide +kernel
theorem d_C_has_5 : decode me_C_has.2.1 5 = .ok (.aload_n 0, 1) := by decide +kernel
theorem d_C_has_6 : decode me_C_has.2.1 6 = .ok (.getfield 15, 3) := by decide +kernel
theorem d_C_has_9 : decode me_C_has.2.1 9 = .ok (.if_icmp .ge 7, 3) := by decide +kernel
theorem d_C_has_12 : decode me_C_has.2.1 12 = .ok (.iconst 1, 1) := by decide +kernel
theorem d_C_has_13 : decode me_C_has.2.1 13 = .ok (.goto 4, 3) := by decide +kernel
theorem d_C_has_16 : decode me_C_has.2.1 16 = .ok (.iconst 0, 1) := by decide +kernel
theorem d_C_has_17 : decode me_C_has.2.1 17 = .ok (.ireturn, 1) := by decide +kernel
abbrev G_C_has_0 (l : Launch) (v : gs_V) (n : Nat) (post : Int32 → gs_S → Prop) (σ : gs_S) (x1 : Int32) : Prop := gG l v lyC 42 me_C_has n (qI v lyC 42 post) 0 [(0, .ref (v.2.2 10)), (1, .int x1)] [] σ
abbrev G_C_has_16 (l : Launch) (v : gs_V) (n : Nat) (post : Int32 → gs_S → Prop) (σ : gs_S) : Prop := gG l v lyC 42 me_C_has n (qI v lyC 42 post) 16 [] [] σ
abbrev G_C_has_17 (l : Launch) (v : gs_V) (n : Nat) (post : Int32 → gs_S → Prop) (σ : gs_S) (s0 : Int32) : Prop := gG l v lyC 42 me_C_has n (qI v lyC 42 post) 17 [] [.int s0] σ
set_option maxRecDepth 20000 in
set_option maxHeartbeats 1000000 in
theorem T_C_has_0 {l : Launch} {v : gs_V} {n : Nat} {post : Int32 → gs_S → Prop} {σ : gs_S} {x1 : Int32} (h : ((x1 < 0 → G_C_has_16 l v n post σ) ∧ (¬ x1 < 0 → (((σ.1 10 1) ≤ x1 → G_C_has_16 l v n post σ) ∧ (¬ (σ.1 10 1) ≤ x1 → G_C_has_17 l v n post σ 1))))) : G_C_has_0 l v n post σ x1 := by
  refine g_iload_n d_C_has_0 1 rfl rfl ?_
  refine g_if_lt (tgt := 16) d_C_has_1 rfl (fun hc => ?_) (fun hc => ?_)
  · have h := h.1 hc
    exact g_sub [] rfl h
  · have h := h.2 hc
    refine g_iload_n d_C_has_4 1 rfl rfl ?_
    refine g_aload_n d_C_has_5 0 rfl rfl ?_
    refine g_getV (x := .int (σ.1 10 1)) d_C_has_6 fl_C_15 (by decide) rfl rfl rfl ?_
    refine g_icmp_ge (tgt := 16) d_C_has_9 rfl (fun hc => ?_) (fun hc => ?_)
    · have h := h.1 hc
      exact g_sub [] rfl h
    · have h := h.2 hc
      refine g_iconst d_C_has_12 (x := 1) (by decide) ?_
      refine g_goto (tgt := 17) d_C_has_13 rfl ?_
      exact g_sub [] rfl h
set_option maxRecDepth 20000 in
set_option maxHeartbeats 1000000 in
theorem T_C_has_16 {l : Launch} {v : gs_V} {n : Nat} {post : Int32 → gs_S → Prop} {σ : gs_S} (h : G_C_has_17 l v n post σ 0) : G_C_has_16 l v n post σ := by
  refine g_iconst d_C_has_16 (x := 0) (by decide) ?_
  exact h
set_option maxRecDepth 20000 in
set_option maxHeartbeats 1000000 in
theorem T_C_has_17 {l : Launch} {v : gs_V} {n : Nat} {post : Int32 → gs_S → Prop} {σ : gs_S} {s0 : Int32} (h : narrow .boolean (.int s0) = .int s0 ∧ post s0 σ) : G_C_has_17 l v n post σ s0 := by
  exact g_zret d_C_has_17 rfl h.1 h.2
theorem E_C_has {l : Launch} {v : gs_V} {n : Nat} {post : Int32 → gs_S → Prop} {σ : gs_S} {x1 : Int32} (h : G_C_has_0 l v n post σ x1) : gM l v lyC 42 me_C_has (n + 1) [.ref (v.2.2 10), .int x1] σ (qI v lyC 42 post) := gM_of (by decide +kernel) (Nat.le_of_ble_eq_true rfl) h
/-! LineRules$Ring.resize -/
theorem d_C_resize_0 : decode me_C_resize.2.1 0 = .ok (.aload_n 0, 1) := by decide +kernel
theorem d_C_resize_1 : decode me_C_resize.2.1 1 = .ok (.iload_n 1, 1) := by decide +kernel
theorem d_C_resize_2 : decode me_C_resize.2.1 2 = .ok (.putfield 15, 3) := by decide +kernel
theorem d_C_resize_5 : decode me_C_resize.2.1 5 = .ok (.aload_n 0, 1) := by decide +kernel
theorem d_C_resize_6 : decode me_C_resize.2.1 6 = .ok (.invokevirtual 29, 3) := by decide +kernel
theorem d_C_resize_9 : decode me_C_resize.2.1 9 = .ok (.return_, 1) := by decide +kernel
abbrev G_C_resize_0 (l : Launch) (v : gs_V) (n : Nat) (post : gs_S → Prop) (σ : gs_S) (x1 : Int32) : Prop := gG l v lyC 42 me_C_resize n (qV v lyC 42 post) 0 [(0, .ref (v.2.2 10)), (1, .int x1)] [] σ
set_option maxRecDepth 20000 in
set_option maxHeartbeats 1000000 in
theorem T_C_resize_0 {l : Launch} {v : gs_V} {n : Nat} {post : gs_S → Prop} {σ : gs_S} {x1 : Int32} (h : gM l v lyC 42 me_C_clear n [.ref (v.2.2 10)] (gs_pI σ 10 1 x1) (qV v lyC 42 (fun σ1 => post σ1))) : G_C_resize_0 l v n post σ x1 := by
  refine g_aload_n d_C_resize_0 0 rfl rfl ?_
  refine g_iload_n d_C_resize_1 1 rfl rfl ?_
  refine g_putI d_C_resize_2 fp_C_15 (by decide) rfl rfl ⟨rfl, rfl⟩ ?_
  refine g_aload_n d_C_resize_5 0 rfl rfl ?_
  refine g_callVv (av := []) (rest := []) d_C_resize_6 Y_C_clear lk_C_29 (by decide) rfl rfl I_C_clear rfl (Nat.le_of_ble_eq_true rfl) rfl h (fun σ1 h => ?_)
  exact g_vret d_C_resize_9 rfl h
theorem E_C_resize {l : Launch} {v : gs_V} {n : Nat} {post : gs_S → Prop} {σ : gs_S} {x1 : Int32} (h : G_C_resize_0 l v n post σ x1) : gM l v lyC 42 me_C_resize (n + 1) [.ref (v.2.2 10), .int x1] σ (qV v lyC 42 post) := gM_of (by decide +kernel) (Nat.le_of_ble_eq_true rfl) h
