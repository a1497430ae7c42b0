/-! LineRules$Weights.addGain -/
theorem d_W_addGain_0 : decode me_W_addGain.2.1 0 = .ok (.iload_n 1, 1) := by decide +kernel
theorem d_W_addGain_1 : decode me_W_addGain.2.1 1 = .ok (.istore_n 3, 1) := by decide +kernel
theorem d_W_addGain_2 : decode me_W_addGain.2.1 2 = .ok (.iconst 1, 1) := by decide +kernel
theorem d_W_addGain_3 : decode me_W_addGain.2.1 3 = .ok (.istore 4, 2) := by decide +kernel
theorem d_W_addGain_5 : decode me_W_addGain.2.1 5 = .ok (.iload 4, 2) := by decide +kernel
theorem d_W_addGain_7 : decode me_W_addGain.2.1 7 = .ok (.aload_n 0, 1) := by decide +kernel
theorem d_W_addGain_8 : decode me_W_addGain.2.1 8 = .ok (.getfield 31, 3) := by decide +kernel
theorem d_W_addGain_11 : decode me_W_addGain.2.1 11 = .ok (.getfield 82, 3) := by decide +kernel
theorem d_W_addGain_14 : decode me_W_addGain.2.1 14 = .ok (.if_icmp .ge 38, 3) := by decide +kernel
theorem d_W_addGain_17 : decode me_W_addGain.2.1 17 = .ok (.aload_n 0, 1) := by decide +kernel
theorem d_W_addGain_18 : decode me_W_addGain.2.1 18 = .ok (.getfield 19, 3) := by decide +kernel
theorem d_W_addGain_21 : decode me_W_addGain.2.1 21 = .ok (.aload_n 0, 1) := by decide +kernel
theorem d_W_addGain_22 : decode me_W_addGain.2.1 22 = .ok (.getfield 31, 3) := by decide +kernel
theorem d_W_addGain_25 : decode me_W_addGain.2.1 25 = .ok (.getfield 67, 3) := by decide +kernel
theorem d_W_addGain_28 : decode me_W_addGain.2.1 28 = .ok (.iload_n 3, 1) := by decide +kernel
theorem d_W_addGain_29 : decode me_W_addGain.2.1 29 = .ok (.iaload, 1) := by decide +kernel
theorem d_W_addGain_30 : decode me_W_addGain.2.1 30 = .ok (.dup2, 1) := by decide +kernel
theorem d_W_addGain_31 : decode me_W_addGain.2.1 31 = .ok (.laload, 1) := by decide +kernel
theorem d_W_addGain_32 : decode me_W_addGain.2.1 32 = .ok (.iload_n 2, 1) := by decide +kernel
theorem d_W_addGain_33 : decode me_W_addGain.2.1 33 = .ok (.i2l, 1) := by decide +kernel
theorem d_W_addGain_34 : decode me_W_addGain.2.1 34 = .ok (.ladd, 1) := by decide +kernel
theorem d_W_addGain_35 : decode me_W_addGain.2.1 35 = .ok (.lastore, 1) := by decide +kernel
theorem d_W_addGain_36 : decode me_W_addGain.2.1 36 = .ok (.iload_n 3, 1) := by decide +kernel
theorem d_W_addGain_37 : decode me_W_addGain.2.1 37 = .ok (.aload_n 0, 1) := by decide +kernel
theorem d_W_addGain_38 : decode me_W_addGain.2.1 38 = .ok (.getfield 31, 3) := by decide +kernel
theorem d_W_addGain_41 : decode me_W_addGain.2.1 41 = .ok (.getfield 60, 3) := by decide +kernel
theorem d_W_addGain_44 : decode me_W_addGain.2.1 44 = .ok (.idiv, 1) := by decide +kernel
theorem d_W_addGain_45 : decode me_W_addGain.2.1 45 = .ok (.istore_n 3, 1) := by decide +kernel
theorem d_W_addGain_46 : decode me_W_addGain.2.1 46 = .ok (.iinc 4 1, 3) := by decide +kernel
theorem d_W_addGain_49 : decode me_W_addGain.2.1 49 = .ok (.goto (-44), 3) := by decide +kernel
theorem d_W_addGain_52 : decode me_W_addGain.2.1 52 = .ok (.return_, 1) := by decide +kernel
abbrev G_W_addGain_0 (l : Launch) (v : gs_V) (n : Nat) (post : gs_S → Prop) (σ : gs_S) (x1 : Int32) (x2 : Int32) : Prop := gG l v lyC 42 me_W_addGain n (qV v lyC 42 post) 0 [(0, .ref (v.2.2 19)), (1, .int x1), (2, .int x2)] [] σ
abbrev G_W_addGain_5 (l : Launch) (v : gs_V) (n : Nat) (post : gs_S → Prop) (σ : gs_S) (x2 : Int32) (x3 : Int32) (x4 : Int32) : Prop := gG l v lyC 42 me_W_addGain n (qV v lyC 42 post) 5 [(0, .ref (v.2.2 19)), (2, .int x2), (3, .int x3), (4, .int x4)] [] σ
set_option maxRecDepth 20000 in
set_option maxHeartbeats 1000000 in
theorem T_W_addGain_0 {l : Launch} {v : gs_V} {n : Nat} {post : gs_S → Prop} {σ : gs_S} {x1 : Int32} {x2 : Int32} (h : G_W_addGain_5 l v n post σ x2 x1 1) : G_W_addGain_0 l v n post σ x1 x2 := by
  refine g_iload_n d_W_addGain_0 1 rfl rfl ?_
  refine g_istore_n (L' := [(3, .int x1), (0, .ref (v.2.2 19)), (1, .int x1), (2, .int x2)]) d_W_addGain_1 rfl (by decide) rfl ?_
  refine g_iconst d_W_addGain_2 (x := 1) (by decide) ?_
  refine g_istore (L' := [(4, .int 1), (3, .int x1), (0, .ref (v.2.2 19)), (1, .int x1), (2, .int x2)]) d_W_addGain_3 (by decide) rfl ?_
  exact g_sub [2, 4, 1, 0] rfl h
set_option maxRecDepth 20000 in
set_option maxHeartbeats 1000000 in
theorem T_W_addGain_5 {l : Launch} {v : gs_V} {n : Nat} {post : gs_S → Prop} {σ : gs_S} {x2 : Int32} {x3 : Int32} {x4 : Int32} (h : (((σ.1 4 7) ≤ x4 → post σ) ∧ (¬ (σ.1 4 7) ≤ x4 → vp_in x3 256 ∧ vp_in (σ.1 5 x3.toNatClampNeg) 4 ∧ vp_in (σ.1 5 x3.toNatClampNeg) 4 ∧ ¬ (σ.1 4 6) = 0 ∧ G_W_addGain_5 l v n post (gs_pL σ 30 ((σ.1 5 x3.toNatClampNeg).toNatClampNeg) ((σ.2.1 30 ((σ.1 5 x3.toNatClampNeg).toNatClampNeg)) + x2.toInt64)) x2 (x3 / (σ.1 4 6)) (x4 + 1)))) : G_W_addGain_5 l v n post σ x2 x3 x4 := by
  refine g_iload d_W_addGain_5 3 rfl ?_
  refine g_aload_n d_W_addGain_7 0 rfl rfl ?_
  refine g_getV (x := .ref (v.2.2 4)) d_W_addGain_8 fl_W_31 (by decide) rfl rfl rfl ?_
  refine g_getV (x := .int (σ.1 4 7)) d_W_addGain_11 fl_W_82 (by decide) rfl rfl rfl ?_
  refine g_icmp_ge (tgt := 52) d_W_addGain_14 rfl (fun hc => ?_) (fun hc => ?_)
  · have h := h.1 hc
    exact g_vret d_W_addGain_52 rfl h
  · have h := h.2 hc
    refine g_aload_n d_W_addGain_17 0 rfl rfl ?_
    refine g_getV (x := .ref (v.2.2 30)) d_W_addGain_18 fl_W_19 (by decide) rfl rfl rfl ?_
    refine g_aload_n d_W_addGain_21 0 rfl rfl ?_
    refine g_getV (x := .ref (v.2.2 4)) d_W_addGain_22 fl_W_31 (by decide) rfl rfl rfl ?_
    refine g_getV (x := .ref (v.2.2 5)) d_W_addGain_25 fl_W_67 (by decide) rfl rfl rfl ?_
    refine g_iload_n d_W_addGain_28 2 rfl rfl ?_
    have hi1 := h.1
    have h := h.2
    refine g_iald (x := σ.1 5 x3.toNatClampNeg) d_W_addGain_29 (by decide) rfl hi1 rfl ?_
    refine g_dup2_11 d_W_addGain_30 rfl rfl ?_
    have hi2 := h.1
    have h := h.2
    refine g_lald (x := σ.2.1 30 ((σ.1 5 x3.toNatClampNeg).toNatClampNeg)) d_W_addGain_31 (by decide) rfl hi2 rfl ?_
    refine g_iload_n d_W_addGain_32 1 rfl rfl ?_
    refine g_i2l d_W_addGain_33 ?_
    refine g_ladd d_W_addGain_34 ?_
    have hi3 := h.1
    have h := h.2
    refine g_last d_W_addGain_35 (by decide) rfl hi3 ?_
    refine g_iload_n d_W_addGain_36 2 rfl rfl ?_
    refine g_aload_n d_W_addGain_37 0 rfl rfl ?_
    refine g_getV (x := .ref (v.2.2 4)) d_W_addGain_38 fl_W_31 (by decide) rfl rfl rfl ?_
    refine g_getV (x := .int (σ.1 4 6)) d_W_addGain_41 fl_W_60 (by decide) rfl rfl rfl ?_
    refine g_idiv d_W_addGain_44 h.1 ?_
    have h := h.2
    refine g_istore_n (L' := [(3, .int (x3 / (σ.1 4 6))), (0, .ref (v.2.2 19)), (2, .int x2), (4, .int x4)]) d_W_addGain_45 rfl (by decide) rfl ?_
    refine g_iinc (L' := [(4, .int (x4 + 1)), (3, .int (x3 / (σ.1 4 6))), (0, .ref (v.2.2 19)), (2, .int x2)]) d_W_addGain_46 3 rfl (by rfl) (by decide) rfl ?_
    refine g_goto (tgt := 5) d_W_addGain_49 rfl ?_
    exact g_sub [2, 3, 1, 0] rfl h
theorem E_W_addGain {l : Launch} {v : gs_V} {n : Nat} {post : gs_S → Prop} {σ : gs_S} {x1 : Int32} {x2 : Int32} (h : G_W_addGain_0 l v n post σ x1 x2) : gM l v lyC 42 me_W_addGain (n + 1) [.ref (v.2.2 19), .int x1, .int x2] σ (qV v lyC 42 post) := gM_of (by decide +kernel) (Nat.le_of_ble_eq_true rfl) h
/-! LineRules$Weights.at -/
theorem d_W_at_0 : decode me_W_at.2.1 0 = .ok (.aload_n 0, 1) := by decide +kernel
theorem d_W_at_1 : decode me_W_at.2.1 1 = .ok (.invokevirtual 35, 3) := by decide +kernel
theorem d_W_at_4 : decode me_W_at.2.1 4 = .ok (.iload_n 1, 1) := by decide +kernel
theorem d_W_at_5 : decode me_W_at.2.1 5 = .ok (.ifCond .lt 22, 3) := by decide +kernel
theorem d_W_at_8 : decode me_W_at.2.1 8 = .ok (.iload_n 1, 1) := by decide +kernel
theorem d_W_at_9 : decode me_W_at.2.1 9 = .ok (.aload_n 0, 1) := by decide +kernel
theorem d_W_at_10 : decode me_W_at.2.1 10 = .ok (.getfield 27, 3) := by decide +kernel
theorem d_W_at_13 : decode me_W_at.2.1 13 = .ok (.if_icmp .ge 14, 3) := by decide +kernel
theorem d_W_at_16 : decode me_W_at.2.1 16 = .ok (.aload_n 0, 1) := by decide +kernel
theorem d_W_at_17 : decode me_W_at.2.1 17 = .ok (.getfield 31, 3) := by decide +kernel
theorem d_W_at_20 : decode me_W_at.2.1 20 = .ok (.iload_n 2, 1) := by decide +kernel
theorem d_W_at_21 : decode me_W_at.2.1 21 = .ok (.invokevirtual 38, 3) := by decide +kernel
theorem d_W_at_24 : decode me_W_at.2.1 24 = .ok (.ifCond .ne 7, 3) := by decide +kernel
theorem d_W_at_27 : decode me_W_at.2.1 27 = .ok (.iconst 0, 1) := by decide +kernel
theorem d_W_at_28 : decode me_W_at.2.1 28 = .ok (.goto 12, 3) := by decide +kernel
theorem d_W_at_31 : decode me_W_at.2.1 31 = .ok (.aload_n 0, 1) := by decide +kernel
theorem d_W_at_32 : decode me_W_at.2.1 32 = .ok (.getfield 16, 3) := by decide +kernel
theorem d_W_at_35 : decode me_W_at.2.1 35 = .ok (.iload_n 1, 1) := by decide +kernel
theorem d_W_at_36 : decode me_W_at.2.1 36 = .ok (.aaload, 1) := by decide +kernel
theorem d_W_at_37 : decode me_W_at.2.1 37 = .ok (.iload_n 2, 1) := by decide +kernel
theorem d_W_at_38 : decode me_W_at.2.1 38 = .ok (.laload, 1) := by decide +kernel
theorem d_W_at_39 : decode me_W_at.2.1 39 = .ok (.l2i, 1) := by decide +kernel
theorem d_W_at_40 : decode me_W_at.2.1 40 = .ok (.ireturn, 1) := by decide +kernel
abbrev G_W_at_0 (l : Launch) (v : gs_V) (n : Nat) (post : Int32 → gs_S → Prop) (σ : gs_S) (x1 : Int32) (x2 : Int32) : Prop := gG l v lyC 42 me_W_at n (qI v lyC 42 post) 0 [(0, .ref (v.2.2 19)), (1, .int x1), (2, .int x2)] [] σ
abbrev G_W_at_27 (l : Launch) (v : gs_V) (n : Nat) (post : Int32 → gs_S → Prop) (σ : gs_S) : Prop := gG l v lyC 42 me_W_at n (qI v lyC 42 post) 27 [] [] σ
abbrev G_W_at_40 (l : Launch) (v : gs_V) (n : Nat) (post : Int32 → gs_S → Prop) (σ : gs_S) (s0 : Int32) : Prop := gG l v lyC 42 me_W_at n (qI v lyC 42 post) 40 [] [.int s0] σ
set_option maxRecDepth 20000 in
set_option maxHeartbeats 1000000 in
theorem T_W_at_0 {l : Launch} {v : gs_V} {n : Nat} {post : Int32 → gs_S → Prop} {σ : gs_S} {x1 : Int32} {x2 : Int32} (h : gM l v lyC 42 me_W_find n [.ref (v.2.2 19)] σ (qV v lyC 42 (fun σ1 => ((x1 < 0 → G_W_at_27 l v n post σ1) ∧ (¬ x1 < 0 → (((σ1.1 19 5) ≤ x1 → G_W_at_27 l v n post σ1) ∧ (¬ (σ1.1 19 5) ≤ x1 → gM l v lyC 42 me_R_hasState n [.ref (v.2.2 4), .int x2] σ1 (qI v lyC 42 (fun r2 σ2 => ((¬ r2 = 0 → vp_in x1 4 ∧ vp_in x2 4 ∧ G_W_at_40 l v n post σ2 ((σ2.2.1 (26 + x1.toNatClampNeg) x2.toNatClampNeg).toInt32)) ∧ (r2 = 0 → G_W_at_27 l v n post σ2))))))))))) : G_W_at_0 l v n post σ x1 x2 := by
  refine g_aload_n d_W_at_0 0 rfl rfl ?_
  refine g_callVv (av := []) (rest := []) d_W_at_1 Y_W_find lk_W_35 (by decide) rfl rfl I_W_find rfl (Nat.le_of_ble_eq_true rfl) rfl h (fun σ1 h => ?_)
  refine g_iload_n d_W_at_4 1 rfl rfl ?_
  refine g_if_lt (tgt := 27) d_W_at_5 rfl (fun hc => ?_) (fun hc => ?_)
  · have h := h.1 hc
    exact g_sub [] rfl h
  · have h := h.2 hc
    refine g_iload_n d_W_at_8 1 rfl rfl ?_
    refine g_aload_n d_W_at_9 0 rfl rfl ?_
    refine g_getV (x := .int (σ1.1 19 5)) d_W_at_10 fl_W_27 (by decide) rfl rfl rfl ?_
    refine g_icmp_ge (tgt := 27) d_W_at_13 rfl (fun hc => ?_) (fun hc => ?_)
    · have h := h.1 hc
      exact g_sub [] rfl h
    · have h := h.2 hc
      refine g_aload_n d_W_at_16 0 rfl rfl ?_
      refine g_getV (x := .ref (v.2.2 4)) d_W_at_17 fl_W_31 (by decide) rfl rfl rfl ?_
      refine g_iload_n d_W_at_20 2 rfl rfl ?_
      refine g_callVi (av := [.int x2]) (rest := []) d_W_at_21 Y_R_hasState lk_W_38 (by decide) rfl rfl I_R_hasState rfl (Nat.le_of_ble_eq_true rfl) rfl h (fun r2 σ2 h => ?_)
      refine g_if_ne (tgt := 31) d_W_at_24 rfl (fun hc => ?_) (fun hc => ?_)
      · have h := h.1 hc
        refine g_aload_n d_W_at_31 0 rfl rfl ?_
        refine g_getV (x := .ref (v.2.2 25)) d_W_at_32 fl_W_16 (by decide) rfl rfl rfl ?_
        refine g_iload_n d_W_at_35 1 rfl rfl ?_
        have hi3 := h.1
        have h := h.2
        refine g_aald d_W_at_36 (by decide) rfl hi3 ?_
        refine g_iload_n d_W_at_37 2 rfl rfl ?_
        have hi4 := h.1
        have h := h.2
        refine g_lald (x := σ2.2.1 (26 + x1.toNatClampNeg) x2.toNatClampNeg) d_W_at_38 (ly_basis hi3).1 (ly_basis hi3).2 hi4 rfl ?_
        refine g_l2i d_W_at_39 ?_
        exact g_sub [] rfl h
      · have h := h.2 hc
        exact g_sub [] rfl h
set_option maxRecDepth 20000 in
set_option maxHeartbeats 1000000 in
theorem T_W_at_27 {l : Launch} {v : gs_V} {n : Nat} {post : Int32 → gs_S → Prop} {σ : gs_S} (h : G_W_at_40 l v n post σ 0) : G_W_at_27 l v n post σ := by
  refine g_iconst d_W_at_27 (x := 0) (by decide) ?_
  refine g_goto (tgt := 40) d_W_at_28 rfl ?_
  exact h
set_option maxRecDepth 20000 in
set_option maxHeartbeats 1000000 in
theorem T_W_at_40 {l : Launch} {v : gs_V} {n : Nat} {post : Int32 → gs_S → Prop} {σ : gs_S} {s0 : Int32} (h : post s0 σ) : G_W_at_40 l v n post σ s0 := by
  exact g_iret d_W_at_40 rfl h
theorem E_W_at {l : Launch} {v : gs_V} {n : Nat} {post : Int32 → gs_S → Prop} {σ : gs_S} {x1 : Int32} {x2 : Int32} (h : G_W_at_0 l v n post σ x1 x2) : gM l v lyC 42 me_W_at (n + 1) [.ref (v.2.2 19), .int x1, .int x2] σ (qI v lyC 42 post) := gM_of (by decide +kernel) (Nat.le_of_ble_eq_true rfl) h
/-! LineRules$Weights.commonDivisor -/
theorem d_W_commonDivisor_0 : decode me_W_commonDivisor.2.1 0 = .ok (.lload_n 0, 1) := by decide +kernel
theorem d_W_commonDivisor_1 : decode me_W_commonDivisor.2.1 1 = .ok (.lstore 4, 2) := by decide +kernel
theorem d_W_commonDivisor_3 : decode me_W_commonDivisor.2.1 3 = .ok (.lload_n 2, 1) := by decide +kernel
theorem d_W_commonDivisor_4 : decode me_W_commonDivisor.2.1 4 = .ok (.lstore 6, 2) := by decide +kernel
theorem d_W_commonDivisor_6 : decode me_W_commonDivisor.2.1 6 = .ok (.iconst 0, 1) := by decide +kernel
theorem d_W_commonDivisor_7 : decode me_W_commonDivisor.2.1 7 = .ok (.istore 8, 2) := by decide +kernel
theorem d_W_commonDivisor_9 : decode me_W_commonDivisor.2.1 9 = .ok (.iload 8, 2) := by decide +kernel
theorem d_W_commonDivisor_11 : decode me_W_commonDivisor.2.1 11 = .ok (.bipush 100, 2) := by decide +kernel
theorem d_W_commonDivisor_13 : decode me_W_commonDivisor.2.1 13 = .ok (.if_icmp .ge 31, 3) := by decide +kernel
theorem d_W_commonDivisor_16 : decode me_W_commonDivisor.2.1 16 = .ok (.lload 6, 2) := by decide +kernel
theorem d_W_commonDivisor_18 : decode me_W_commonDivisor.2.1 18 = .ok (.lconst 0, 1) := by decide +kernel
theorem d_W_commonDivisor_19 : decode me_W_commonDivisor.2.1 19 = .ok (.lcmp, 1) := by decide +kernel
theorem d_W_commonDivisor_20 : decode me_W_commonDivisor.2.1 20 = .ok (.ifCond .eq 24, 3) := by decide +kernel
theorem d_W_commonDivisor_23 : decode me_W_commonDivisor.2.1 23 = .ok (.lload 4, 2) := by decide +kernel
theorem d_W_commonDivisor_25 : decode me_W_commonDivisor.2.1 25 = .ok (.lload 6, 2) := by decide +kernel
theorem d_W_commonDivisor_27 : decode me_W_commonDivisor.2.1 27 = .ok (.lrem, 1) := by decide +kernel
theorem d_W_commonDivisor_28 : decode me_W_commonDivisor.2.1 28 = .ok (.lstore 9, 2) := by decide +kernel
theorem d_W_commonDivisor_30 : decode me_W_commonDivisor.2.1 30 = .ok (.lload 6, 2) := by decide +kernel
theorem d_W_commonDivisor_32 : decode me_W_commonDivisor.2.1 32 = .ok (.lstore 4, 2) := by decide +kernel
theorem d_W_commonDivisor_34 : decode me_W_commonDivisor.2.1 34 = .ok (.lload 9, 2) := by decide +kernel
theorem d_W_commonDivisor_36 : decode me_W_commonDivisor.2.1 36 = .ok (.lstore 6, 2) := by decide +kernel
theorem d_W_commonDivisor_38 : decode me_W_commonDivisor.2.1 38 = .ok (.iinc 8 1, 3) := by decide +kernel
theorem d_W_commonDivisor_41 : decode me_W_commonDivisor.2.1 41 = .ok (.goto (-32), 3) := by decide +kernel
theorem d_W_commonDivisor_44 : decode me_W_commonDivisor.2.1 44 = .ok (.lload 4, 2) := by decide +kernel
theorem d_W_commonDivisor_46 : decode me_W_commonDivisor.2.1 46 = .ok (.lreturn, 1) := by decide +kernel
abbrev G_W_commonDivisor_0 (l : Launch) (v : gs_V) (n : Nat) (post : Int64 → gs_S → Prop) (σ : gs_S) (x0 : Int64) (x2 : Int64) : Prop := gG l v lyC 42 me_W_commonDivisor n (qL v lyC 42 post) 0 [(0, .long x0), (2, .long x2)] [] σ
abbrev G_W_commonDivisor_9 (l : Launch) (v : gs_V) (n : Nat) (post : Int64 → gs_S → Prop) (σ : gs_S) (x4 : Int64) (x6 : Int64) (x8 : Int32) : Prop := gG l v lyC 42 me_W_commonDivisor n (qL v lyC 42 post) 9 [(4, .long x4), (6, .long x6), (8, .int x8)] [] σ
abbrev G_W_commonDivisor_44 (l : Launch) (v : gs_V) (n : Nat) (post : Int64 → gs_S → Prop) (σ : gs_S) (x4 : Int64) : Prop := gG l v lyC 42 me_W_commonDivisor n (qL v lyC 42 post) 44 [(4, .long x4)] [] σ
set_option maxRecDepth 20000 in
set_option maxHeartbeats 1000000 in
theorem T_W_commonDivisor_0 {l : Launch} {v : gs_V} {n : Nat} {post : Int64 → gs_S → Prop} {σ : gs_S} {x0 : Int64} {x2 : Int64} (h : G_W_commonDivisor_9 l v n post σ x0 x2 0) : G_W_commonDivisor_0 l v n post σ x0 x2 := by
  refine g_lload_n d_W_commonDivisor_0 0 rfl rfl ?_
  refine g_lstore (L' := [(4, .long x0), (0, .long x0), (2, .long x2)]) d_W_commonDivisor_1 (by decide) rfl ?_
  refine g_lload_n d_W_commonDivisor_3 2 rfl rfl ?_
  refine g_lstore (L' := [(6, .long x2), (4, .long x0), (0, .long x0), (2, .long x2)]) d_W_commonDivisor_4 (by decide) rfl ?_
  refine g_iconst d_W_commonDivisor_6 (x := 0) (by decide) ?_
  refine g_istore (L' := [(8, .int 0), (6, .long x2), (4, .long x0), (0, .long x0), (2, .long x2)]) d_W_commonDivisor_7 (by decide) rfl ?_
  exact g_sub [2, 1, 0] rfl h
set_option maxRecDepth 20000 in
set_option maxHeartbeats 1000000 in
theorem T_W_commonDivisor_9 {l : Launch} {v : gs_V} {n : Nat} {post : Int64 → gs_S → Prop} {σ : gs_S} {x4 : Int64} {x6 : Int64} {x8 : Int32} (h : ((100 ≤ x8 → G_W_commonDivisor_44 l v n post σ x4) ∧ (¬ 100 ≤ x8 → ((x6 = 0 → G_W_commonDivisor_44 l v n post σ x4) ∧ (¬ x6 = 0 → ¬ x6 = 0 ∧ G_W_commonDivisor_9 l v n post σ x6 (jRL x4 x6) (x8 + 1)))))) : G_W_commonDivisor_9 l v n post σ x4 x6 x8 := by
  refine g_iload d_W_commonDivisor_9 2 rfl ?_
  refine g_bipush d_W_commonDivisor_11 (x := 100) (by decide) ?_
  refine g_icmp_ge (tgt := 44) d_W_commonDivisor_13 rfl (fun hc => ?_) (fun hc => ?_)
  · have h := h.1 hc
    exact g_sub [0] rfl h
  · have h := h.2 hc
    refine g_lload d_W_commonDivisor_16 1 rfl ?_
    refine g_lconst d_W_commonDivisor_18 (x := 0) (by decide) ?_
    refine g_lcmp_eq (tgt := 44) d_W_commonDivisor_19 d_W_commonDivisor_20 rfl (fun hc => ?_) (fun hc => ?_)
    · have h := h.1 hc
      exact g_sub [0] rfl h
    · have h := h.2 hc
      refine g_lload d_W_commonDivisor_23 0 rfl ?_
      refine g_lload d_W_commonDivisor_25 1 rfl ?_
      refine g_lrem d_W_commonDivisor_27 h.1 ?_
      have h := h.2
      refine g_lstore (L' := [(9, .long (jRL x4 x6)), (4, .long x4), (6, .long x6), (8, .int x8)]) d_W_commonDivisor_28 (by decide) rfl ?_
      refine g_lload d_W_commonDivisor_30 2 rfl ?_
      refine g_lstore (L' := [(4, .long x6), (9, .long (jRL x4 x6)), (6, .long x6), (8, .int x8)]) d_W_commonDivisor_32 (by decide) rfl ?_
      refine g_lload d_W_commonDivisor_34 1 rfl ?_
      refine g_lstore (L' := [(6, .long (jRL x4 x6)), (4, .long x6), (9, .long (jRL x4 x6)), (8, .int x8)]) d_W_commonDivisor_36 (by decide) rfl ?_
      refine g_iinc (L' := [(8, .int (x8 + 1)), (6, .long (jRL x4 x6)), (4, .long x6), (9, .long (jRL x4 x6))]) d_W_commonDivisor_38 3 rfl (by rfl) (by decide) rfl ?_
      refine g_goto (tgt := 9) d_W_commonDivisor_41 rfl ?_
      exact g_sub [2, 1, 0] rfl h
set_option maxRecDepth 20000 in
set_option maxHeartbeats 1000000 in
theorem T_W_commonDivisor_44 {l : Launch} {v : gs_V} {n : Nat} {post : Int64 → gs_S → Prop} {σ : gs_S} {x4 : Int64} (h : post x4 σ) : G_W_commonDivisor_44 l v n post σ x4 := by
  refine g_lload d_W_commonDivisor_44 0 rfl ?_
  exact g_lret d_W_commonDivisor_46 rfl h
theorem E_W_commonDivisor {l : Launch} {v : gs_V} {n : Nat} {post : Int64 → gs_S → Prop} {σ : gs_S} {x0 : Int64} {x2 : Int64} (h : G_W_commonDivisor_0 l v n post σ x0 x2) : gM l v lyC 42 me_W_commonDivisor (n + 1) [.long x0, .long x2] σ (qL v lyC 42 post) := gM_of (by decide +kernel) (Nat.le_of_ble_eq_true rfl) h
/-! LineRules$Weights.count -/
theorem d_W_count_0 : decode me_W_count.2.1 0 = .ok (.aload_n 0, 1) := by decide +kernel
theorem d_W_count_1 : decode me_W_count.2.1 1 = .ok (.invokevirtual 35, 3) := by decide +kernel
theorem d_W_count_4 : decode me_W_count.2.1 4 = .ok (.aload_n 0, 1) := by decide +kernel
theorem d_W_count_5 : decode me_W_count.2.1 5 = .ok (.getfield 27, 3) := by decide +kernel
theorem d_W_count_8 : decode me_W_count.2.1 8 = .ok (.ireturn, 1) := by decide +kernel
abbrev G_W_count_0 (l : Launch) (v : gs_V) (n : Nat) (post : Int32 → gs_S → Prop) (σ : gs_S) : Prop := gG l v lyC 42 me_W_count n (qI v lyC 42 post) 0 [(0, .ref (v.2.2 19))] [] σ
set_option maxRecDepth 20000 in
set_option maxHeartbeats 1000000 in
theorem T_W_count_0 {l : Launch} {v : gs_V} {n : Nat} {post : Int32 → gs_S → Prop} {σ : gs_S} (h : gM l v lyC 42 me_W_find n [.ref (v.2.2 19)] σ (qV v lyC 42 (fun σ1 => post (σ1.1 19 5) σ1))) : G_W_count_0 l v n post σ := by
  refine g_aload_n d_W_count_0 0 rfl rfl ?_
  refine g_callVv (av := []) (rest := []) d_W_count_1 Y_W_find lk_W_35 (by decide) rfl rfl I_W_find rfl (Nat.le_of_ble_eq_true rfl) rfl h (fun σ1 h => ?_)
  refine g_aload_n d_W_count_4 0 rfl rfl ?_
  refine g_getV (x := .int (σ1.1 19 5)) d_W_count_5 fl_W_27 (by decide) rfl rfl rfl ?_
  exact g_iret d_W_count_8 rfl h
theorem E_W_count {l : Launch} {v : gs_V} {n : Nat} {post : Int32 → gs_S → Prop} {σ : gs_S} (h : G_W_count_0 l v n post σ) : gM l v lyC 42 me_W_count (n + 1) [.ref (v.2.2 19)] σ (qI v lyC 42 post) := gM_of (by decide +kernel) (Nat.le_of_ble_eq_true rfl) h
/-! LineRules$Weights.find -/
theorem d_W_find_0 : decode me_W_find.2.1 0 = .ok (.aload_n 0, 1) := by decide +kernel
theorem d_W_find_1 : decode me_W_find.2.1 1 = .ok (.getfield 23, 3) := by decide +kernel
theorem d_W_find_4 : decode me_W_find.2.1 4 = .ok (.ifCond .eq 4, 3) := by decide +kernel
theorem d_W_find_7 : decode me_W_find.2.1 7 = .ok (.return_, 1) := by decide +kernel
theorem d_W_find_8 : decode me_W_find.2.1 8 = .ok (.aload_n 0, 1) := by decide +kernel
theorem d_W_find_9 : decode me_W_find.2.1 9 = .ok (.iconst 1, 1) := by decide +kernel
theorem d_W_find_10 : decode me_W_find.2.1 10 = .ok (.putfield 23, 3) := by decide +kernel
theorem d_W_find_13 : decode me_W_find.2.1 13 = .ok (.iconst 0, 1) := by decide +kernel
theorem d_W_find_14 : decode me_W_find.2.1 14 = .ok (.istore_n 1, 1) := by decide +kernel
theorem d_W_find_15 : decode me_W_find.2.1 15 = .ok (.iload_n 1, 1) := by decide +kernel
theorem d_W_find_16 : decode me_W_find.2.1 16 = .ok (.iconst 4, 1) := by decide +kernel
theorem d_W_find_17 : decode me_W_find.2.1 17 = .ok (.if_icmp .ge 19, 3) := by decide +kernel
theorem d_W_find_20 : decode me_W_find.2.1 20 = .ok (.aload_n 0, 1) := by decide +kernel
theorem d_W_find_21 : decode me_W_find.2.1 21 = .ok (.getfield 11, 3) := by decide +kernel
theorem d_W_find_24 : decode me_W_find.2.1 24 = .ok (.iload_n 1, 1) := by decide +kernel
theorem d_W_find_25 : decode me_W_find.2.1 25 = .ok (.aaload, 1) := by decide +kernel
theorem d_W_find_26 : decode me_W_find.2.1 26 = .ok (.lconst 0, 1) := by decide +kernel
theorem d_W_find_27 : decode me_W_find.2.1 27 = .ok (.invokestatic 44, 3) := by decide +kernel
theorem d_W_find_30 : decode me_W_find.2.1 30 = .ok (.iinc 1 1, 3) := by decide +kernel
theorem d_W_find_33 : decode me_W_find.2.1 33 = .ok (.goto (-18), 3) := by decide +kernel
theorem d_W_find_36 : decode me_W_find.2.1 36 = .ok (.iconst 0, 1) := by decide +kernel
theorem d_W_find_37 : decode me_W_find.2.1 37 = .ok (.istore_n 1, 1) := by decide +kernel
theorem d_W_find_38 : decode me_W_find.2.1 38 = .ok (.iload_n 1, 1) := by decide +kernel
theorem d_W_find_39 : decode me_W_find.2.1 39 = .ok (.aload_n 0, 1) := by decide +kernel
theorem d_W_find_40 : decode me_W_find.2.1 40 = .ok (.getfield 31, 3) := by decide +kernel
theorem d_W_find_43 : decode me_W_find.2.1 43 = .ok (.getfield 50, 3) := by decide +kernel
theorem d_W_find_46 : decode me_W_find.2.1 46 = .ok (.if_icmp .ge 18, 3) := by decide +kernel
theorem d_W_find_49 : decode me_W_find.2.1 49 = .ok (.aload_n 0, 1) := by decide +kernel
theorem d_W_find_50 : decode me_W_find.2.1 50 = .ok (.iload_n 1, 1) := by decide +kernel
theorem d_W_find_51 : decode me_W_find.2.1 51 = .ok (.invokevirtual 53, 3) := by decide +kernel
theorem d_W_find_54 : decode me_W_find.2.1 54 = .ok (.aload_n 0, 1) := by decide +kernel
theorem d_W_find_55 : decode me_W_find.2.1 55 = .ok (.invokevirtual 57, 3) := by decide +kernel
theorem d_W_find_58 : decode me_W_find.2.1 58 = .ok (.iinc 1 1, 3) := by decide +kernel
theorem d_W_find_61 : decode me_W_find.2.1 61 = .ok (.goto (-23), 3) := by decide +kernel
theorem d_W_find_64 : decode me_W_find.2.1 64 = .ok (.aload_n 0, 1) := by decide +kernel
theorem d_W_find_65 : decode me_W_find.2.1 65 = .ok (.iconst 0, 1) := by decide +kernel
theorem d_W_find_66 : decode me_W_find.2.1 66 = .ok (.putfield 27, 3) := by decide +kernel
theorem d_W_find_69 : decode me_W_find.2.1 69 = .ok (.iconst 1, 1) := by decide +kernel
theorem d_W_find_70 : decode me_W_find.2.1 70 = .ok (.istore_n 1, 1) := by decide +kernel
theorem d_W_find_71 : decode me_W_find.2.1 71 = .ok (.iload_n 1, 1) := by decide +kernel
theorem d_W_find_72 : decode me_W_find.2.1 72 = .ok (.aload_n 0, 1) := by decide +kernel
theorem d_W_find_73 : decode me_W_find.2.1 73 = .ok (.getfield 31, 3) := by decide +kernel
theorem d_W_find_76 : decode me_W_find.2.1 76 = .ok (.getfield 60, 3) := by decide +kernel
theorem d_W_find_79 : decode me_W_find.2.1 79 = .ok (.if_icmp .ge 46, 3) := by decide +kernel
theorem d_W_find_82 : decode me_W_find.2.1 82 = .ok (.aload_n 0, 1) := by decide +kernel
theorem d_W_find_83 : decode me_W_find.2.1 83 = .ok (.getfield 11, 3) := by decide +kernel
theorem d_W_find_86 : decode me_W_find.2.1 86 = .ok (.iload_n 1, 1) := by decide +kernel
theorem d_W_find_87 : decode me_W_find.2.1 87 = .ok (.aaload, 1) := by decide +kernel
theorem d_W_find_88 : decode me_W_find.2.1 88 = .ok (.iload_n 1, 1) := by decide +kernel
theorem d_W_find_89 : decode me_W_find.2.1 89 = .ok (.laload, 1) := by decide +kernel
theorem d_W_find_90 : decode me_W_find.2.1 90 = .ok (.lconst 0, 1) := by decide +kernel
theorem d_W_find_91 : decode me_W_find.2.1 91 = .ok (.lcmp, 1) := by decide +kernel
theorem d_W_find_92 : decode me_W_find.2.1 92 = .ok (.ifCond .ne 27, 3) := by decide +kernel
theorem d_W_find_95 : decode me_W_find.2.1 95 = .ok (.aload_n 0, 1) := by decide +kernel
theorem d_W_find_96 : decode me_W_find.2.1 96 = .ok (.iload_n 1, 1) := by decide +kernel
theorem d_W_find_97 : decode me_W_find.2.1 97 = .ok (.aload_n 0, 1) := by decide +kernel
theorem d_W_find_98 : decode me_W_find.2.1 98 = .ok (.getfield 16, 3) := by decide +kernel
theorem d_W_find_101 : decode me_W_find.2.1 101 = .ok (.aload_n 0, 1) := by decide +kernel
theorem d_W_find_102 : decode me_W_find.2.1 102 = .ok (.getfield 27, 3) := by decide +kernel
theorem d_W_find_105 : decode me_W_find.2.1 105 = .ok (.aaload, 1) := by decide +kernel
theorem d_W_find_106 : decode me_W_find.2.1 106 = .ok (.invokevirtual 63, 3) := by decide +kernel
theorem d_W_find_109 : decode me_W_find.2.1 109 = .ok (.aload_n 0, 1) := by decide +kernel
theorem d_W_find_110 : decode me_W_find.2.1 110 = .ok (.dup, 1) := by decide +kernel
theorem d_W_find_111 : decode me_W_find.2.1 111 = .ok (.getfield 27, 3) := by decide +kernel
theorem d_W_find_114 : decode me_W_find.2.1 114 = .ok (.iconst 1, 1) := by decide +kernel
theorem d_W_find_115 : decode me_W_find.2.1 115 = .ok (.iadd, 1) := by decide +kernel
theorem d_W_find_116 : decode me_W_find.2.1 116 = .ok (.putfield 27, 3) := by decide +kernel
theorem d_W_find_119 : decode me_W_find.2.1 119 = .ok (.iinc 1 1, 3) := by decide +kernel
theorem d_W_find_122 : decode me_W_find.2.1 122 = .ok (.goto (-51), 3) := by decide +kernel
theorem d_W_find_125 : decode me_W_find.2.1 125 = .ok (.return_, 1) := by decide +kernel
abbrev G_W_find_0 (l : Launch) (v : gs_V) (n : Nat) (post : gs_S → Prop) (σ : gs_S) : Prop := gG l v lyC 42 me_W_find n (qV v lyC 42 post) 0 [(0, .ref (v.2.2 19))] [] σ
abbrev G_W_find_15 (l : Launch) (v : gs_V) (n : Nat) (post : gs_S → Prop) (σ : gs_S) (x1 : Int32) : Prop := gG l v lyC 42 me_W_find n (qV v lyC 42 post) 15 [(0, .ref (v.2.2 19)), (1, .int x1)] [] σ
abbrev G_W_find_38 (l : Launch) (v : gs_V) (n : Nat) (post : gs_S → Prop) (σ : gs_S) (x1 : Int32) : Prop := gG l v lyC 42 me_W_find n (qV v lyC 42 post) 38 [(0, .ref (v.2.2 19)), (1, .int x1)] [] σ
abbrev G_W_find_71 (l : Launch) (v : gs_V) (n : Nat) (post : gs_S → Prop) (σ : gs_S) (x1 : Int32) : Prop := gG l v lyC 42 me_W_find n (qV v lyC 42 post) 71 [(0, .ref (v.2.2 19)), (1, .int x1)] [] σ
abbrev G_W_find_119 (l : Launch) (v : gs_V) (n : Nat) (post : gs_S → Prop) (σ : gs_S) (x1 : Int32) : Prop := gG l v lyC 42 me_W_find n (qV v lyC 42 post) 119 [(0, .ref (v.2.2 19)), (1, .int x1)] [] σ
set_option maxRecDepth 20000 in
set_option maxHeartbeats 1000000 in
theorem T_W_find_0 {l : Launch} {v : gs_V} {n : Nat} {post : gs_S → Prop} {σ : gs_S} (h : (((σ.1 19 4) = 0 → G_W_find_15 l v n post (gs_pI σ 19 4 1) 0) ∧ (¬ (σ.1 19 4) = 0 → post σ))) : G_W_find_0 l v n post σ := by
  refine g_aload_n d_W_find_0 0 rfl rfl ?_
  refine g_getV (x := .int (σ.1 19 4)) d_W_find_1 fl_W_23 (by decide) rfl rfl rfl ?_
  refine g_if_eq (tgt := 8) d_W_find_4 rfl (fun hc => ?_) (fun hc => ?_)
  · have h := h.1 hc
    refine g_aload_n d_W_find_8 0 rfl rfl ?_
    refine g_iconst d_W_find_9 (x := 1) (by decide) ?_
    refine g_putI d_W_find_10 fp_W_23 (by decide) rfl rfl ⟨rfl, rfl⟩ ?_
    refine g_iconst d_W_find_13 (x := 0) (by decide) ?_
    refine g_istore_n (L' := [(1, .int 0), (0, .ref (v.2.2 19))]) d_W_find_14 rfl (by decide) rfl ?_
    exact g_sub [1, 0] rfl h
  · have h := h.2 hc
    exact g_vret d_W_find_7 rfl h
set_option maxRecDepth 20000 in
set_option maxHeartbeats 1000000 in
theorem T_W_find_15 {l : Launch} {v : gs_V} {n : Nat} {post : gs_S → Prop} {σ : gs_S} {x1 : Int32} (h : ((4 ≤ x1 → G_W_find_38 l v n post σ 0) ∧ (¬ 4 ≤ x1 → vp_in x1 4 ∧ gM l v lyC 42 me_Y_fillJ n [.ref (v.2.2 (21 + x1.toNatClampNeg)), .long 0] σ (qV v lyC 42 (fun σ2 => G_W_find_15 l v n post σ2 (x1 + 1)))))) : G_W_find_15 l v n post σ x1 := by
  refine g_iload_n d_W_find_15 1 rfl rfl ?_
  refine g_iconst d_W_find_16 (x := 4) (by decide) ?_
  refine g_icmp_ge (tgt := 36) d_W_find_17 rfl (fun hc => ?_) (fun hc => ?_)
  · have h := h.1 hc
    refine g_iconst d_W_find_36 (x := 0) (by decide) ?_
    refine g_istore_n (L' := [(1, .int 0), (0, .ref (v.2.2 19))]) d_W_find_37 rfl (by decide) rfl ?_
    exact g_sub [1, 0] rfl h
  · have h := h.2 hc
    refine g_aload_n d_W_find_20 0 rfl rfl ?_
    refine g_getV (x := .ref (v.2.2 20)) d_W_find_21 fl_W_11 (by decide) rfl rfl rfl ?_
    refine g_iload_n d_W_find_24 1 rfl rfl ?_
    have hi1 := h.1
    have h := h.2
    refine g_aald d_W_find_25 (by decide) rfl hi1 ?_
    refine g_lconst d_W_find_26 (x := 0) (by decide) ?_
    refine g_callSv (av := [.ref (v.2.2 (21 + x1.toNatClampNeg)), .long 0]) (rest := []) d_W_find_27 Y_Y_fillJ lk_W_44 I_Y_fillJ rfl (Nat.le_of_ble_eq_true rfl) rfl h (fun σ2 h => ?_)
    refine g_iinc (L' := [(1, .int (x1 + 1)), (0, .ref (v.2.2 19))]) d_W_find_30 1 rfl (by rfl) (by decide) rfl ?_
    refine g_goto (tgt := 15) d_W_find_33 rfl ?_
    exact g_sub [1, 0] rfl h
set_option maxRecDepth 20000 in
set_option maxHeartbeats 1000000 in
theorem T_W_find_38 {l : Launch} {v : gs_V} {n : Nat} {post : gs_S → Prop} {σ : gs_S} {x1 : Int32} (h : (((σ.1 4 8) ≤ x1 → G_W_find_71 l v n post (gs_pI σ 19 5 0) 1) ∧ (¬ (σ.1 4 8) ≤ x1 → gM l v lyC 42 me_W_writeEquation n [.ref (v.2.2 19), .int x1] σ (qV v lyC 42 (fun σ1 => gM l v lyC 42 me_W_tie n [.ref (v.2.2 19)] σ1 (qV v lyC 42 (fun σ2 => G_W_find_38 l v n post σ2 (x1 + 1)))))))) : G_W_find_38 l v n post σ x1 := by
  refine g_iload_n d_W_find_38 1 rfl rfl ?_
  refine g_aload_n d_W_find_39 0 rfl rfl ?_
  refine g_getV (x := .ref (v.2.2 4)) d_W_find_40 fl_W_31 (by decide) rfl rfl rfl ?_
  refine g_getV (x := .int (σ.1 4 8)) d_W_find_43 fl_W_50 (by decide) rfl rfl rfl ?_
  refine g_icmp_ge (tgt := 64) d_W_find_46 rfl (fun hc => ?_) (fun hc => ?_)
  · have h := h.1 hc
    refine g_aload_n d_W_find_64 0 rfl rfl ?_
    refine g_iconst d_W_find_65 (x := 0) (by decide) ?_
    refine g_putI d_W_find_66 fp_W_27 (by decide) rfl rfl ⟨rfl, rfl⟩ ?_
    refine g_iconst d_W_find_69 (x := 1) (by decide) ?_
    refine g_istore_n (L' := [(1, .int 1), (0, .ref (v.2.2 19))]) d_W_find_70 rfl (by decide) rfl ?_
    exact g_sub [1, 0] rfl h
  · have h := h.2 hc
    refine g_aload_n d_W_find_49 0 rfl rfl ?_
    refine g_iload_n d_W_find_50 1 rfl rfl ?_
    refine g_callVv (av := [.int x1]) (rest := []) d_W_find_51 Y_W_writeEquation lk_W_53 (by decide) rfl rfl I_W_writeEquation rfl (Nat.le_of_ble_eq_true rfl) rfl h (fun σ1 h => ?_)
    refine g_aload_n d_W_find_54 0 rfl rfl ?_
    refine g_callVv (av := []) (rest := []) d_W_find_55 Y_W_tie lk_W_57 (by decide) rfl rfl I_W_tie rfl (Nat.le_of_ble_eq_true rfl) rfl h (fun σ2 h => ?_)
    refine g_iinc (L' := [(1, .int (x1 + 1)), (0, .ref (v.2.2 19))]) d_W_find_58 1 rfl (by rfl) (by decide) rfl ?_
    refine g_goto (tgt := 38) d_W_find_61 rfl ?_
    exact g_sub [1, 0] rfl h
set_option maxRecDepth 20000 in
set_option maxHeartbeats 1000000 in
theorem T_W_find_71 {l : Launch} {v : gs_V} {n : Nat} {post : gs_S → Prop} {σ : gs_S} {x1 : Int32} (h : (((σ.1 4 6) ≤ x1 → post σ) ∧ (¬ (σ.1 4 6) ≤ x1 → vp_in x1 4 ∧ vp_in x1 4 ∧ ((¬ (σ.2.1 (21 + x1.toNatClampNeg) x1.toNatClampNeg) = 0 → G_W_find_119 l v n post σ x1) ∧ ((σ.2.1 (21 + x1.toNatClampNeg) x1.toNatClampNeg) = 0 → vp_in (σ.1 19 5) 4 ∧ gM l v lyC 42 me_W_writeWeight n [.ref (v.2.2 19), .int x1, .ref (v.2.2 (26 + (σ.1 19 5).toNatClampNeg))] σ (qV v lyC 42 (fun σ4 => G_W_find_119 l v n post (gs_pI σ4 19 5 ((σ4.1 19 5) + 1)) x1))))))) : G_W_find_71 l v n post σ x1 := by
  refine g_iload_n d_W_find_71 1 rfl rfl ?_
  refine g_aload_n d_W_find_72 0 rfl rfl ?_
  refine g_getV (x := .ref (v.2.2 4)) d_W_find_73 fl_W_31 (by decide) rfl rfl rfl ?_
  refine g_getV (x := .int (σ.1 4 6)) d_W_find_76 fl_W_60 (by decide) rfl rfl rfl ?_
  refine g_icmp_ge (tgt := 125) d_W_find_79 rfl (fun hc => ?_) (fun hc => ?_)
  · have h := h.1 hc
    exact g_vret d_W_find_125 rfl h
  · have h := h.2 hc
    refine g_aload_n d_W_find_82 0 rfl rfl ?_
    refine g_getV (x := .ref (v.2.2 20)) d_W_find_83 fl_W_11 (by decide) rfl rfl rfl ?_
    refine g_iload_n d_W_find_86 1 rfl rfl ?_
    have hi1 := h.1
    have h := h.2
    refine g_aald d_W_find_87 (by decide) rfl hi1 ?_
    refine g_iload_n d_W_find_88 1 rfl rfl ?_
    have hi2 := h.1
    have h := h.2
    refine g_lald (x := σ.2.1 (21 + x1.toNatClampNeg) x1.toNatClampNeg) d_W_find_89 (ly_ties hi1).1 (ly_ties hi1).2 hi2 rfl ?_
    refine g_lconst d_W_find_90 (x := 0) (by decide) ?_
    refine g_lcmp_ne (tgt := 119) d_W_find_91 d_W_find_92 rfl (fun hc => ?_) (fun hc => ?_)
    · have h := h.1 hc
      exact h
    · have h := h.2 hc
      refine g_aload_n d_W_find_95 0 rfl rfl ?_
      refine g_iload_n d_W_find_96 1 rfl rfl ?_
      refine g_aload_n d_W_find_97 0 rfl rfl ?_
      refine g_getV (x := .ref (v.2.2 25)) d_W_find_98 fl_W_16 (by decide) rfl rfl rfl ?_
      refine g_aload_n d_W_find_101 0 rfl rfl ?_
      refine g_getV (x := .int (σ.1 19 5)) d_W_find_102 fl_W_27 (by decide) rfl rfl rfl ?_
      have hi3 := h.1
      have h := h.2
      refine g_aald d_W_find_105 (by decide) rfl hi3 ?_
      refine g_callVv (av := [.int x1, .ref (v.2.2 (26 + (σ.1 19 5).toNatClampNeg))]) (rest := []) d_W_find_106 Y_W_writeWeight lk_W_63 (by decide) rfl rfl I_W_writeWeight rfl (Nat.le_of_ble_eq_true rfl) rfl h (fun σ4 h => ?_)
      refine g_aload_n d_W_find_109 0 rfl rfl ?_
      refine g_dup d_W_find_110 rfl ?_
      refine g_getV (x := .int (σ4.1 19 5)) d_W_find_111 fl_W_27 (by decide) rfl rfl rfl ?_
      refine g_iconst d_W_find_114 (x := 1) (by decide) ?_
      refine g_iadd d_W_find_115 ?_
      refine g_putI d_W_find_116 fp_W_27 (by decide) rfl rfl ⟨rfl, rfl⟩ ?_
      exact h
set_option maxRecDepth 20000 in
set_option maxHeartbeats 1000000 in
theorem T_W_find_119 {l : Launch} {v : gs_V} {n : Nat} {post : gs_S → Prop} {σ : gs_S} {x1 : Int32} (h : G_W_find_71 l v n post σ (x1 + 1)) : G_W_find_119 l v n post σ x1 := by
  refine g_iinc (L' := [(1, .int (x1 + 1)), (0, .ref (v.2.2 19))]) d_W_find_119 1 rfl (by rfl) (by decide) rfl ?_
  refine g_goto (tgt := 71) d_W_find_122 rfl ?_
  exact g_sub [1, 0] rfl h
theorem E_W_find {l : Launch} {v : gs_V} {n : Nat} {post : gs_S → Prop} {σ : gs_S} (h : G_W_find_0 l v n post σ) : gM l v lyC 42 me_W_find (n + 1) [.ref (v.2.2 19)] σ (qV v lyC 42 post) := gM_of (by decide +kernel) (Nat.le_of_ble_eq_true rfl) h
/-! LineRules$Weights.forget -/
theorem d_W_forget_0 : decode me_W_forget.2.1 0 = .ok (.aload_n 0, 1) := by decide +kernel
theorem d_W_forget_1 : decode me_W_forget.2.1 1 = .ok (.iconst 0, 1) := by decide +kernel
theorem d_W_forget_2 : decode me_W_forget.2.1 2 = .ok (.putfield 23, 3) := by decide +kernel
theorem d_W_forget_5 : decode me_W_forget.2.1 5 = .ok (.return_, 1) := by decide +kernel
abbrev G_W_forget_0 (l : Launch) (v : gs_V) (n : Nat) (post : gs_S → Prop) (σ : gs_S) : Prop := gG l v lyC 42 me_W_forget n (qV v lyC 42 post) 0 [(0, .ref (v.2.2 19))] [] σ
set_option maxRecDepth 20000 in
set_option maxHeartbeats 1000000 in
theorem T_W_forget_0 {l : Launch} {v : gs_V} {n : Nat} {post : gs_S → Prop} {σ : gs_S} (h : post (gs_pI σ 19 4 0)) : G_W_forget_0 l v n post σ := by
  refine g_aload_n d_W_forget_0 0 rfl rfl ?_
  refine g_iconst d_W_forget_1 (x := 0) (by decide) ?_
  refine g_putI d_W_forget_2 fp_W_23 (by decide) rfl rfl ⟨rfl, rfl⟩ ?_
  exact g_vret d_W_forget_5 rfl h
theorem E_W_forget {l : Launch} {v : gs_V} {n : Nat} {post : gs_S → Prop} {σ : gs_S} (h : G_W_forget_0 l v n post σ) : gM l v lyC 42 me_W_forget (n + 1) [.ref (v.2.2 19)] σ (qV v lyC 42 post) := gM_of (by decide +kernel) (Nat.le_of_ble_eq_true rfl) h
/-! LineRules$Weights.shorten -/
theorem d_W_shorten_0 : decode me_W_shorten.2.1 0 = .ok (.lconst 0, 1) := by decide +kernel
theorem d_W_shorten_1 : decode me_W_shorten.2.1 1 = .ok (.lstore_n 2, 1) := by decide +kernel
theorem d_W_shorten_2 : decode me_W_shorten.2.1 2 = .ok (.iconst 0, 1) := by decide +kernel
theorem d_W_shorten_3 : decode me_W_shorten.2.1 3 = .ok (.istore 4, 2) := by decide +kernel
theorem d_W_shorten_5 : decode me_W_shorten.2.1 5 = .ok (.iload 4, 2) := by decide +kernel
theorem d_W_shorten_7 : decode me_W_shorten.2.1 7 = .ok (.iconst 4, 1) := by decide +kernel
theorem d_W_shorten_8 : decode me_W_shorten.2.1 8 = .ok (.if_icmp .ge 21, 3) := by decide +kernel
theorem d_W_shorten_11 : decode me_W_shorten.2.1 11 = .ok (.lload_n 2, 1) := by decide +kernel
theorem d_W_shorten_12 : decode me_W_shorten.2.1 12 = .ok (.aload_n 1, 1) := by decide +kernel
theorem d_W_shorten_13 : decode me_W_shorten.2.1 13 = .ok (.iload 4, 2) := by decide +kernel
theorem d_W_shorten_15 : decode me_W_shorten.2.1 15 = .ok (.laload, 1) := by decide +kernel
theorem d_W_shorten_16 : decode me_W_shorten.2.1 16 = .ok (.invokestatic 95, 3) := by decide +kernel
theorem d_W_shorten_19 : decode me_W_shorten.2.1 19 = .ok (.invokestatic 101, 3) := by decide +kernel
theorem d_W_shorten_22 : decode me_W_shorten.2.1 22 = .ok (.lstore_n 2, 1) := by decide +kernel
theorem d_W_shorten_23 : decode me_W_shorten.2.1 23 = .ok (.iinc 4 1, 3) := by decide +kernel
theorem d_W_shorten_26 : decode me_W_shorten.2.1 26 = .ok (.goto (-21), 3) := by decide +kernel
theorem d_W_shorten_29 : decode me_W_shorten.2.1 29 = .ok (.lload_n 2, 1) := by decide +kernel
theorem d_W_shorten_30 : decode me_W_shorten.2.1 30 = .ok (.lconst 0, 1) := by decide +kernel
theorem d_W_shorten_31 : decode me_W_shorten.2.1 31 = .ok (.lcmp, 1) := by decide +kernel
theorem d_W_shorten_32 : decode me_W_shorten.2.1 32 = .ok (.ifCond .ne 4, 3) := by decide +kernel
theorem d_W_shorten_35 : decode me_W_shorten.2.1 35 = .ok (.return_, 1) := by decide +kernel
theorem d_W_shorten_36 : decode me_W_shorten.2.1 36 = .ok (.iconst 0, 1) := by decide +kernel
theorem d_W_shorten_37 : decode me_W_shorten.2.1 37 = .ok (.istore 4, 2) := by decide +kernel
theorem d_W_shorten_39 : decode me_W_shorten.2.1 39 = .ok (.iload 4, 2) := by decide +kernel
theorem d_W_shorten_41 : decode me_W_shorten.2.1 41 = .ok (.iconst 4, 1) := by decide +kernel
theorem d_W_shorten_42 : decode me_W_shorten.2.1 42 = .ok (.if_icmp .ge 17, 3) := by decide +kernel
theorem d_W_shorten_45 : decode me_W_shorten.2.1 45 = .ok (.aload_n 1, 1) := by decide +kernel
theorem d_W_shorten_46 : decode me_W_shorten.2.1 46 = .ok (.iload 4, 2) := by decide +kernel
theorem d_W_shorten_48 : decode me_W_shorten.2.1 48 = .ok (.dup2, 1) := by decide +kernel
theorem d_W_shorten_49 : decode me_W_shorten.2.1 49 = .ok (.laload, 1) := by decide +kernel
theorem d_W_shorten_50 : decode me_W_shorten.2.1 50 = .ok (.lload_n 2, 1) := by decide +kernel
theorem d_W_shorten_51 : decode me_W_shorten.2.1 51 = .ok (.ldiv, 1) := by decide +kernel
theorem d_W_shorten_52 : decode me_W_shorten.2.1 52 = .ok (.lastore, 1) := by decide +kernel
theorem d_W_shorten_53 : decode me_W_shorten.2.1 53 = .ok (.iinc 4 1, 3) := by decide +kernel
theorem d_W_shorten_56 : decode me_W_shorten.2.1 56 = .ok (.goto (-17), 3) := by decide +kernel
theorem d_W_shorten_59 : decode me_W_shorten.2.1 59 = .ok (.return_, 1) := by decide +kernel
abbrev G_W_shorten_0 (l : Launch) (v : gs_V) (n : Nat) (post : gs_S → Prop) (σ : gs_S) (x1 : Nat) : Prop := gG l v lyC 42 me_W_shorten n (qV v lyC 42 post) 0 [(0, .ref (v.2.2 19)), (1, .ref (v.2.2 x1))] [] σ
abbrev G_W_shorten_5 (l : Launch) (v : gs_V) (n : Nat) (post : gs_S → Prop) (σ : gs_S) (x1 : Nat) (x2 : Int64) (x4 : Int32) : Prop := gG l v lyC 42 me_W_shorten n (qV v lyC 42 post) 5 [(1, .ref (v.2.2 x1)), (2, .long x2), (4, .int x4)] [] σ
abbrev G_W_shorten_39 (l : Launch) (v : gs_V) (n : Nat) (post : gs_S → Prop) (σ : gs_S) (x1 : Nat) (x2 : Int64) (x4 : Int32) : Prop := gG l v lyC 42 me_W_shorten n (qV v lyC 42 post) 39 [(1, .ref (v.2.2 x1)), (2, .long x2), (4, .int x4)] [] σ
set_option maxRecDepth 20000 in
set_option maxHeartbeats 1000000 in
theorem T_W_shorten_0 {l : Launch} {v : gs_V} {n : Nat} {post : gs_S → Prop} {σ : gs_S} {x1 : Nat} (hx1 : x1 < 42 ∧ lyC x1 = .inl (1, 4, 0)) (h : G_W_shorten_5 l v n post σ x1 0 0) : G_W_shorten_0 l v n post σ x1 := by
  refine g_lconst d_W_shorten_0 (x := 0) (by decide) ?_
  refine g_lstore_n (L' := [(2, .long 0), (0, .ref (v.2.2 19)), (1, .ref (v.2.2 x1))]) d_W_shorten_1 rfl (by decide) rfl ?_
  refine g_iconst d_W_shorten_2 (x := 0) (by decide) ?_
  refine g_istore (L' := [(4, .int 0), (2, .long 0), (0, .ref (v.2.2 19)), (1, .ref (v.2.2 x1))]) d_W_shorten_3 (by decide) rfl ?_
  exact g_sub [3, 1, 0] rfl h
set_option maxRecDepth 20000 in
set_option maxHeartbeats 1000000 in
theorem T_W_shorten_5 {l : Launch} {v : gs_V} {n : Nat} {post : gs_S → Prop} {σ : gs_S} {x1 : Nat} {x2 : Int64} {x4 : Int32} (hx1 : x1 < 42 ∧ lyC x1 = .inl (1, 4, 0)) (h : ((4 ≤ x4 → ((¬ x2 = 0 → G_W_shorten_39 l v n post σ x1 x2 0) ∧ (x2 = 0 → post σ))) ∧ (¬ 4 ≤ x4 → vp_in x4 4 ∧ gM l v lyC 42 me_J_abs n [.long (σ.2.1 x1 x4.toNatClampNeg)] σ (qL v lyC 42 (fun r2 σ2 => gM l v lyC 42 me_W_commonDivisor n [.long x2, .long r2] σ2 (qL v lyC 42 (fun r3 σ3 => G_W_shorten_5 l v n post σ3 x1 r3 (x4 + 1)))))))) : G_W_shorten_5 l v n post σ x1 x2 x4 := by
  refine g_iload d_W_shorten_5 2 rfl ?_
  refine g_iconst d_W_shorten_7 (x := 4) (by decide) ?_
  refine g_icmp_ge (tgt := 29) d_W_shorten_8 rfl (fun hc => ?_) (fun hc => ?_)
  · have h := h.1 hc
    refine g_lload_n d_W_shorten_29 1 rfl rfl ?_
    refine g_lconst d_W_shorten_30 (x := 0) (by decide) ?_
    refine g_lcmp_ne (tgt := 36) d_W_shorten_31 d_W_shorten_32 rfl (fun hc => ?_) (fun hc => ?_)
    · have h := h.1 hc
      refine g_iconst d_W_shorten_36 (x := 0) (by decide) ?_
      refine g_istore (L' := [(4, .int 0), (1, .ref (v.2.2 x1)), (2, .long x2)]) d_W_shorten_37 (by decide) rfl ?_
      exact g_sub [1, 2, 0] rfl h
    · have h := h.2 hc
      exact g_vret d_W_shorten_35 rfl h
  · have h := h.2 hc
    refine g_lload_n d_W_shorten_11 1 rfl rfl ?_
    refine g_aload_n d_W_shorten_12 0 rfl rfl ?_
    refine g_iload d_W_shorten_13 2 rfl ?_
    have hi1 := h.1
    have h := h.2
    refine g_lald (x := σ.2.1 x1 x4.toNatClampNeg) d_W_shorten_15 hx1.1 hx1.2 hi1 rfl ?_
    refine g_callSl (av := [.long (σ.2.1 x1 x4.toNatClampNeg)]) (rest := [.long x2]) d_W_shorten_16 Y_J_abs lk_W_95 I_J_abs rfl (Nat.le_of_ble_eq_true rfl) rfl h (fun r2 σ2 h => ?_)
    refine g_callSl (av := [.long x2, .long r2]) (rest := []) d_W_shorten_19 Y_W_commonDivisor lk_W_101 I_W_commonDivisor rfl (Nat.le_of_ble_eq_true rfl) rfl h (fun r3 σ3 h => ?_)
    refine g_lstore_n (L' := [(2, .long r3), (1, .ref (v.2.2 x1)), (4, .int x4)]) d_W_shorten_22 rfl (by decide) rfl ?_
    refine g_iinc (L' := [(4, .int (x4 + 1)), (2, .long r3), (1, .ref (v.2.2 x1))]) d_W_shorten_23 2 rfl (by rfl) (by decide) rfl ?_
    refine g_goto (tgt := 5) d_W_shorten_26 rfl ?_
    exact g_sub [2, 1, 0] rfl h
set_option maxRecDepth 20000 in
set_option maxHeartbeats 1000000 in
theorem T_W_shorten_39 {l : Launch} {v : gs_V} {n : Nat} {post : gs_S → Prop} {σ : gs_S} {x1 : Nat} {x2 : Int64} {x4 : Int32} (hx1 : x1 < 42 ∧ lyC x1 = .inl (1, 4, 0)) (h : ((4 ≤ x4 → post σ) ∧ (¬ 4 ≤ x4 → vp_in x4 4 ∧ ¬ x2 = 0 ∧ vp_in x4 4 ∧ G_W_shorten_39 l v n post (gs_pL σ x1 x4.toNatClampNeg ((σ.2.1 x1 x4.toNatClampNeg) / x2)) x1 x2 (x4 + 1)))) : G_W_shorten_39 l v n post σ x1 x2 x4 := by
  refine g_iload d_W_shorten_39 2 rfl ?_
  refine g_iconst d_W_shorten_41 (x := 4) (by decide) ?_
  refine g_icmp_ge (tgt := 59) d_W_shorten_42 rfl (fun hc => ?_) (fun hc => ?_)
  · have h := h.1 hc
    exact g_vret d_W_shorten_59 rfl h
  · have h := h.2 hc
    refine g_aload_n d_W_shorten_45 0 rfl rfl ?_
    refine g_iload d_W_shorten_46 2 rfl ?_
    refine g_dup2_11 d_W_shorten_48 rfl rfl ?_
    have hi1 := h.1
    have h := h.2
    refine g_lald (x := σ.2.1 x1 x4.toNatClampNeg) d_W_shorten_49 hx1.1 hx1.2 hi1 rfl ?_
    refine g_lload_n d_W_shorten_50 1 rfl rfl ?_
    refine g_ldiv d_W_shorten_51 h.1 ?_
    have h := h.2
    have hi2 := h.1
    have h := h.2
    refine g_last d_W_shorten_52 hx1.1 hx1.2 hi2 ?_
    refine g_iinc (L' := [(4, .int (x4 + 1)), (1, .ref (v.2.2 x1)), (2, .long x2)]) d_W_shorten_53 2 rfl (by rfl) (by decide) rfl ?_
    refine g_goto (tgt := 39) d_W_shorten_56 rfl ?_
    exact g_sub [1, 2, 0] rfl h
theorem E_W_shorten {l : Launch} {v : gs_V} {n : Nat} {post : gs_S → Prop} {σ : gs_S} {x1 : Nat} (h : G_W_shorten_0 l v n post σ x1) : gM l v lyC 42 me_W_shorten (n + 1) [.ref (v.2.2 19), .ref (v.2.2 x1)] σ (qV v lyC 42 post) := gM_of (by decide +kernel) (Nat.le_of_ble_eq_true rfl) h
/-! LineRules$Weights.tie -/
theorem d_W_tie_0 : decode me_W_tie.2.1 0 = .ok (.aload_n 0, 1) := by decide +kernel
theorem d_W_tie_1 : decode me_W_tie.2.1 1 = .ok (.getfield 31, 3) := by decide +kernel
theorem d_W_tie_4 : decode me_W_tie.2.1 4 = .ok (.getfield 60, 3) := by decide +kernel
theorem d_W_tie_7 : decode me_W_tie.2.1 7 = .ok (.iconst 1, 1) := by decide +kernel
theorem d_W_tie_8 : decode me_W_tie.2.1 8 = .ok (.isub, 1) := by decide +kernel
theorem d_W_tie_9 : decode me_W_tie.2.1 9 = .ok (.istore_n 1, 1) := by decide +kernel
theorem d_W_tie_10 : decode me_W_tie.2.1 10 = .ok (.iload_n 1, 1) := by decide +kernel
theorem d_W_tie_11 : decode me_W_tie.2.1 11 = .ok (.ifCond .le 124, 3) := by decide +kernel
theorem d_W_tie_14 : decode me_W_tie.2.1 14 = .ok (.aload_n 0, 1) := by decide +kernel
theorem d_W_tie_15 : decode me_W_tie.2.1 15 = .ok (.getfield 19, 3) := by decide +kernel
theorem d_W_tie_18 : decode me_W_tie.2.1 18 = .ok (.iload_n 1, 1) := by decide +kernel
theorem d_W_tie_19 : decode me_W_tie.2.1 19 = .ok (.laload, 1) := by decide +kernel
theorem d_W_tie_20 : decode me_W_tie.2.1 20 = .ok (.lconst 0, 1) := by decide +kernel
theorem d_W_tie_21 : decode me_W_tie.2.1 21 = .ok (.lcmp, 1) := by decide +kernel
theorem d_W_tie_22 : decode me_W_tie.2.1 22 = .ok (.ifCond .ne 6, 3) := by decide +kernel
theorem d_W_tie_25 : decode me_W_tie.2.1 25 = .ok (.goto 104, 3) := by decide +kernel
theorem d_W_tie_28 : decode me_W_tie.2.1 28 = .ok (.aload_n 0, 1) := by decide +kernel
theorem d_W_tie_29 : decode me_W_tie.2.1 29 = .ok (.getfield 11, 3) := by decide +kernel
theorem d_W_tie_32 : decode me_W_tie.2.1 32 = .ok (.iload_n 1, 1) := by decide +kernel
theorem d_W_tie_33 : decode me_W_tie.2.1 33 = .ok (.aaload, 1) := by decide +kernel
theorem d_W_tie_34 : decode me_W_tie.2.1 34 = .ok (.iload_n 1, 1) := by decide +kernel
theorem d_W_tie_35 : decode me_W_tie.2.1 35 = .ok (.laload, 1) := by decide +kernel
theorem d_W_tie_36 : decode me_W_tie.2.1 36 = .ok (.lconst 0, 1) := by decide +kernel
theorem d_W_tie_37 : decode me_W_tie.2.1 37 = .ok (.lcmp, 1) := by decide +kernel
theorem d_W_tie_38 : decode me_W_tie.2.1 38 = .ok (.ifCond .ne 20, 3) := by decide +kernel
theorem d_W_tie_41 : decode me_W_tie.2.1 41 = .ok (.aload_n 0, 1) := by decide +kernel
theorem d_W_tie_42 : decode me_W_tie.2.1 42 = .ok (.getfield 19, 3) := by decide +kernel
theorem d_W_tie_45 : decode me_W_tie.2.1 45 = .ok (.iconst 0, 1) := by decide +kernel
theorem d_W_tie_46 : decode me_W_tie.2.1 46 = .ok (.aload_n 0, 1) := by decide +kernel
theorem d_W_tie_47 : decode me_W_tie.2.1 47 = .ok (.getfield 11, 3) := by decide +kernel
theorem d_W_tie_50 : decode me_W_tie.2.1 50 = .ok (.iload_n 1, 1) := by decide +kernel
theorem d_W_tie_51 : decode me_W_tie.2.1 51 = .ok (.aaload, 1) := by decide +kernel
theorem d_W_tie_52 : decode me_W_tie.2.1 52 = .ok (.iconst 0, 1) := by decide +kernel
theorem d_W_tie_53 : decode me_W_tie.2.1 53 = .ok (.iconst 4, 1) := by decide +kernel
theorem d_W_tie_54 : decode me_W_tie.2.1 54 = .ok (.invokestatic 85, 3) := by decide +kernel
theorem d_W_tie_57 : decode me_W_tie.2.1 57 = .ok (.return_, 1) := by decide +kernel
theorem d_W_tie_58 : decode me_W_tie.2.1 58 = .ok (.aload_n 0, 1) := by decide +kernel
theorem d_W_tie_59 : decode me_W_tie.2.1 59 = .ok (.getfield 19, 3) := by decide +kernel
theorem d_W_tie_62 : decode me_W_tie.2.1 62 = .ok (.iload_n 1, 1) := by decide +kernel
theorem d_W_tie_63 : decode me_W_tie.2.1 63 = .ok (.laload, 1) := by decide +kernel
theorem d_W_tie_64 : decode me_W_tie.2.1 64 = .ok (.lstore_n 2, 1) := by decide +kernel
theorem d_W_tie_65 : decode me_W_tie.2.1 65 = .ok (.iconst 0, 1) := by decide +kernel
theorem d_W_tie_66 : decode me_W_tie.2.1 66 = .ok (.istore 4, 2) := by decide +kernel
theorem d_W_tie_68 : decode me_W_tie.2.1 68 = .ok (.iload 4, 2) := by decide +kernel
theorem d_W_tie_70 : decode me_W_tie.2.1 70 = .ok (.aload_n 0, 1) := by decide +kernel
theorem d_W_tie_71 : decode me_W_tie.2.1 71 = .ok (.getfield 31, 3) := by decide +kernel
theorem d_W_tie_74 : decode me_W_tie.2.1 74 = .ok (.getfield 60, 3) := by decide +kernel
theorem d_W_tie_77 : decode me_W_tie.2.1 77 = .ok (.if_icmp .ge 44, 3) := by decide +kernel
theorem d_W_tie_80 : decode me_W_tie.2.1 80 = .ok (.aload_n 0, 1) := by decide +kernel
theorem d_W_tie_81 : decode me_W_tie.2.1 81 = .ok (.getfield 19, 3) := by decide +kernel
theorem d_W_tie_84 : decode me_W_tie.2.1 84 = .ok (.iload 4, 2) := by decide +kernel
theorem d_W_tie_86 : decode me_W_tie.2.1 86 = .ok (.aload_n 0, 1) := by decide +kernel
theorem d_W_tie_87 : decode me_W_tie.2.1 87 = .ok (.getfield 19, 3) := by decide +kernel
theorem d_W_tie_90 : decode me_W_tie.2.1 90 = .ok (.iload 4, 2) := by decide +kernel
theorem d_W_tie_92 : decode me_W_tie.2.1 92 = .ok (.laload, 1) := by decide +kernel
theorem d_W_tie_93 : decode me_W_tie.2.1 93 = .ok (.aload_n 0, 1) := by decide +kernel
theorem d_W_tie_94 : decode me_W_tie.2.1 94 = .ok (.getfield 11, 3) := by decide +kernel
theorem d_W_tie_97 : decode me_W_tie.2.1 97 = .ok (.iload_n 1, 1) := by decide +kernel
theorem d_W_tie_98 : decode me_W_tie.2.1 98 = .ok (.aaload, 1) := by decide +kernel
theorem d_W_tie_99 : decode me_W_tie.2.1 99 = .ok (.iload_n 1, 1) := by decide +kernel
theorem d_W_tie_100 : decode me_W_tie.2.1 100 = .ok (.laload, 1) := by decide +kernel
theorem d_W_tie_101 : decode me_W_tie.2.1 101 = .ok (.lmul, 1) := by decide +kernel
theorem d_W_tie_102 : decode me_W_tie.2.1 102 = .ok (.aload_n 0, 1) := by decide +kernel
theorem d_W_tie_103 : decode me_W_tie.2.1 103 = .ok (.getfield 11, 3) := by decide +kernel
theorem d_W_tie_106 : decode me_W_tie.2.1 106 = .ok (.iload_n 1, 1) := by decide +kernel
theorem d_W_tie_107 : decode me_W_tie.2.1 107 = .ok (.aaload, 1) := by decide +kernel
theorem d_W_tie_108 : decode me_W_tie.2.1 108 = .ok (.iload 4, 2) := by decide +kernel
theorem d_W_tie_110 : decode me_W_tie.2.1 110 = .ok (.laload, 1) := by decide +kernel
theorem d_W_tie_111 : decode me_W_tie.2.1 111 = .ok (.lload_n 2, 1) := by decide +kernel
theorem d_W_tie_112 : decode me_W_tie.2.1 112 = .ok (.lmul, 1) := by decide +kernel
theorem d_W_tie_113 : decode me_W_tie.2.1 113 = .ok (.lsub, 1) := by decide +kernel
theorem d_W_tie_114 : decode me_W_tie.2.1 114 = .ok (.lastore, 1) := by decide +kernel
theorem d_W_tie_115 : decode me_W_tie.2.1 115 = .ok (.iinc 4 1, 3) := by decide +kernel
theorem d_W_tie_118 : decode me_W_tie.2.1 118 = .ok (.goto (-50), 3) := by decide +kernel
theorem d_W_tie_121 : decode me_W_tie.2.1 121 = .ok (.aload_n 0, 1) := by decide +kernel
theorem d_W_tie_122 : decode me_W_tie.2.1 122 = .ok (.aload_n 0, 1) := by decide +kernel
theorem d_W_tie_123 : decode me_W_tie.2.1 123 = .ok (.getfield 19, 3) := by decide +kernel
theorem d_W_tie_126 : decode me_W_tie.2.1 126 = .ok (.invokevirtual 91, 3) := by decide +kernel
theorem d_W_tie_129 : decode me_W_tie.2.1 129 = .ok (.iinc 1 (-1), 3) := by decide +kernel
theorem d_W_tie_132 : decode me_W_tie.2.1 132 = .ok (.goto (-122), 3) := by decide +kernel
theorem d_W_tie_135 : decode me_W_tie.2.1 135 = .ok (.return_, 1) := by decide +kernel
abbrev G_W_tie_0 (l : Launch) (v : gs_V) (n : Nat) (post : gs_S → Prop) (σ : gs_S) : Prop := gG l v lyC 42 me_W_tie n (qV v lyC 42 post) 0 [(0, .ref (v.2.2 19))] [] σ
abbrev G_W_tie_10 (l : Launch) (v : gs_V) (n : Nat) (post : gs_S → Prop) (σ : gs_S) (x1 : Int32) : Prop := gG l v lyC 42 me_W_tie n (qV v lyC 42 post) 10 [(0, .ref (v.2.2 19)), (1, .int x1)] [] σ
abbrev G_W_tie_68 (l : Launch) (v : gs_V) (n : Nat) (post : gs_S → Prop) (σ : gs_S) (x1 : Int32) (x2 : Int64) (x4 : Int32) : Prop := gG l v lyC 42 me_W_tie n (qV v lyC 42 post) 68 [(0, .ref (v.2.2 19)), (1, .int x1), (2, .long x2), (4, .int x4)] [] σ
abbrev G_W_tie_129 (l : Launch) (v : gs_V) (n : Nat) (post : gs_S → Prop) (σ : gs_S) (x1 : Int32) : Prop := gG l v lyC 42 me_W_tie n (qV v lyC 42 post) 129 [(0, .ref (v.2.2 19)), (1, .int x1)] [] σ
set_option maxRecDepth 20000 in
set_option maxHeartbeats 1000000 in
theorem T_W_tie_0 {l : Launch} {v : gs_V} {n : Nat} {post : gs_S → Prop} {σ : gs_S} (h : G_W_tie_10 l v n post σ ((σ.1 4 6) - 1)) : G_W_tie_0 l v n post σ := by
  refine g_aload_n d_W_tie_0 0 rfl rfl ?_
  refine g_getV (x := .ref (v.2.2 4)) d_W_tie_1 fl_W_31 (by decide) rfl rfl rfl ?_
  refine g_getV (x := .int (σ.1 4 6)) d_W_tie_4 fl_W_60 (by decide) rfl rfl rfl ?_
  refine g_iconst d_W_tie_7 (x := 1) (by decide) ?_
  refine g_isub d_W_tie_8 ?_
  refine g_istore_n (L' := [(1, .int ((σ.1 4 6) - 1)), (0, .ref (v.2.2 19))]) d_W_tie_9 rfl (by decide) rfl ?_
  exact g_sub [1, 0] rfl h
set_option maxRecDepth 20000 in
set_option maxHeartbeats 1000000 in
theorem T_W_tie_10 {l : Launch} {v : gs_V} {n : Nat} {post : gs_S → Prop} {σ : gs_S} {x1 : Int32} (h : ((x1 ≤ 0 → post σ) ∧ (¬ x1 ≤ 0 → vp_in x1 4 ∧ ((¬ (σ.2.1 30 x1.toNatClampNeg) = 0 → vp_in x1 4 ∧ vp_in x1 4 ∧ ((¬ (σ.2.1 (21 + x1.toNatClampNeg) x1.toNatClampNeg) = 0 → vp_in x1 4 ∧ G_W_tie_68 l v n post σ x1 (σ.2.1 30 x1.toNatClampNeg) 0) ∧ ((σ.2.1 (21 + x1.toNatClampNeg) x1.toNatClampNeg) = 0 → vp_in x1 4 ∧ post (gs_pB σ (21 + x1.toNatClampNeg) (va_cpy (σ.2.1 30) (σ.2.1 (21 + x1.toNatClampNeg)) 0 0 4))))) ∧ ((σ.2.1 30 x1.toNatClampNeg) = 0 → G_W_tie_129 l v n post σ x1))))) : G_W_tie_10 l v n post σ x1 := by
  refine g_iload_n d_W_tie_10 1 rfl rfl ?_
  refine g_if_le (tgt := 135) d_W_tie_11 rfl (fun hc => ?_) (fun hc => ?_)
  · have h := h.1 hc
    exact g_vret d_W_tie_135 rfl h
  · have h := h.2 hc
    refine g_aload_n d_W_tie_14 0 rfl rfl ?_
    refine g_getV (x := .ref (v.2.2 30)) d_W_tie_15 fl_W_19 (by decide) rfl rfl rfl ?_
    refine g_iload_n d_W_tie_18 1 rfl rfl ?_
    have hi1 := h.1
    have h := h.2
    refine g_lald (x := σ.2.1 30 x1.toNatClampNeg) d_W_tie_19 (by decide) rfl hi1 rfl ?_
    refine g_lconst d_W_tie_20 (x := 0) (by decide) ?_
    refine g_lcmp_ne (tgt := 28) d_W_tie_21 d_W_tie_22 rfl (fun hc => ?_) (fun hc => ?_)
    · have h := h.1 hc
      refine g_aload_n d_W_tie_28 0 rfl rfl ?_
      refine g_getV (x := .ref (v.2.2 20)) d_W_tie_29 fl_W_11 (by decide) rfl rfl rfl ?_
      refine g_iload_n d_W_tie_32 1 rfl rfl ?_
      have hi2 := h.1
      have h := h.2
      refine g_aald d_W_tie_33 (by decide) rfl hi2 ?_
      refine g_iload_n d_W_tie_34 1 rfl rfl ?_
      have hi3 := h.1
      have h := h.2
      refine g_lald (x := σ.2.1 (21 + x1.toNatClampNeg) x1.toNatClampNeg) d_W_tie_35 (ly_ties hi2).1 (ly_ties hi2).2 hi3 rfl ?_
      refine g_lconst d_W_tie_36 (x := 0) (by decide) ?_
      refine g_lcmp_ne (tgt := 58) d_W_tie_37 d_W_tie_38 rfl (fun hc => ?_) (fun hc => ?_)
      · have h := h.1 hc
        refine g_aload_n d_W_tie_58 0 rfl rfl ?_
        refine g_getV (x := .ref (v.2.2 30)) d_W_tie_59 fl_W_19 (by decide) rfl rfl rfl ?_
        refine g_iload_n d_W_tie_62 1 rfl rfl ?_
        have hi4 := h.1
        have h := h.2
        refine g_lald (x := σ.2.1 30 x1.toNatClampNeg) d_W_tie_63 (by decide) rfl hi4 rfl ?_
        refine g_lstore_n (L' := [(2, .long (σ.2.1 30 x1.toNatClampNeg)), (0, .ref (v.2.2 19)), (1, .int x1)]) d_W_tie_64 rfl (by decide) rfl ?_
        refine g_iconst d_W_tie_65 (x := 0) (by decide) ?_
        refine g_istore (L' := [(4, .int 0), (2, .long (σ.2.1 30 x1.toNatClampNeg)), (0, .ref (v.2.2 19)), (1, .int x1)]) d_W_tie_66 (by decide) rfl ?_
        exact g_sub [2, 3, 1, 0] rfl h
      · have h := h.2 hc
        refine g_aload_n d_W_tie_41 0 rfl rfl ?_
        refine g_getV (x := .ref (v.2.2 30)) d_W_tie_42 fl_W_19 (by decide) rfl rfl rfl ?_
        refine g_iconst d_W_tie_45 (x := 0) (by decide) ?_
        refine g_aload_n d_W_tie_46 0 rfl rfl ?_
        refine g_getV (x := .ref (v.2.2 20)) d_W_tie_47 fl_W_11 (by decide) rfl rfl rfl ?_
        refine g_iload_n d_W_tie_50 1 rfl rfl ?_
        have hi5 := h.1
        have h := h.2
        refine g_aald d_W_tie_51 (by decide) rfl hi5 ?_
        refine g_iconst d_W_tie_52 (x := 0) (by decide) ?_
        refine g_iconst d_W_tie_53 (x := 4) (by decide) ?_
        refine g_copyl d_W_tie_54 lk_W_85 (by decide) rfl (ly_ties hi5).1 (ly_ties hi5).2 (by decide) (by decide) (by decide) (Nat.le_of_ble_eq_true rfl) ?_
        exact g_vret d_W_tie_57 rfl h
    · have h := h.2 hc
      refine g_goto (tgt := 129) d_W_tie_25 rfl ?_
      exact h
set_option maxRecDepth 20000 in
set_option maxHeartbeats 1000000 in
theorem T_W_tie_68 {l : Launch} {v : gs_V} {n : Nat} {post : gs_S → Prop} {σ : gs_S} {x1 : Int32} {x2 : Int64} {x4 : Int32} (h : (((σ.1 4 6) ≤ x4 → gM l v lyC 42 me_W_shorten n [.ref (v.2.2 19), .ref (v.2.2 30)] σ (qV v lyC 42 (fun σ1 => G_W_tie_129 l v n post σ1 x1))) ∧ (¬ (σ.1 4 6) ≤ x4 → vp_in x4 4 ∧ vp_in x1 4 ∧ vp_in x1 4 ∧ vp_in x1 4 ∧ vp_in x4 4 ∧ vp_in x4 4 ∧ G_W_tie_68 l v n post (gs_pL σ 30 x4.toNatClampNeg (((σ.2.1 30 x4.toNatClampNeg) * (σ.2.1 (21 + x1.toNatClampNeg) x1.toNatClampNeg)) - ((σ.2.1 (21 + x1.toNatClampNeg) x4.toNatClampNeg) * x2))) x1 x2 (x4 + 1)))) : G_W_tie_68 l v n post σ x1 x2 x4 := by
  refine g_iload d_W_tie_68 3 rfl ?_
  refine g_aload_n d_W_tie_70 0 rfl rfl ?_
  refine g_getV (x := .ref (v.2.2 4)) d_W_tie_71 fl_W_31 (by decide) rfl rfl rfl ?_
  refine g_getV (x := .int (σ.1 4 6)) d_W_tie_74 fl_W_60 (by decide) rfl rfl rfl ?_
  refine g_icmp_ge (tgt := 121) d_W_tie_77 rfl (fun hc => ?_) (fun hc => ?_)
  · have h := h.1 hc
    refine g_aload_n d_W_tie_121 0 rfl rfl ?_
    refine g_aload_n d_W_tie_122 0 rfl rfl ?_
    refine g_getV (x := .ref (v.2.2 30)) d_W_tie_123 fl_W_19 (by decide) rfl rfl rfl ?_
    refine g_callVv (av := [.ref (v.2.2 30)]) (rest := []) d_W_tie_126 Y_W_shorten lk_W_91 (by decide) rfl rfl I_W_shorten rfl (Nat.le_of_ble_eq_true rfl) rfl h (fun σ1 h => ?_)
    exact g_sub [0, 1] rfl h
  · have h := h.2 hc
    refine g_aload_n d_W_tie_80 0 rfl rfl ?_
    refine g_getV (x := .ref (v.2.2 30)) d_W_tie_81 fl_W_19 (by decide) rfl rfl rfl ?_
    refine g_iload d_W_tie_84 3 rfl ?_
    refine g_aload_n d_W_tie_86 0 rfl rfl ?_
    refine g_getV (x := .ref (v.2.2 30)) d_W_tie_87 fl_W_19 (by decide) rfl rfl rfl ?_
    refine g_iload d_W_tie_90 3 rfl ?_
    have hi2 := h.1
    have h := h.2
    refine g_lald (x := σ.2.1 30 x4.toNatClampNeg) d_W_tie_92 (by decide) rfl hi2 rfl ?_
    refine g_aload_n d_W_tie_93 0 rfl rfl ?_
    refine g_getV (x := .ref (v.2.2 20)) d_W_tie_94 fl_W_11 (by decide) rfl rfl rfl ?_
    refine g_iload_n d_W_tie_97 1 rfl rfl ?_
    have hi3 := h.1
    have h := h.2
    refine g_aald d_W_tie_98 (by decide) rfl hi3 ?_
    refine g_iload_n d_W_tie_99 1 rfl rfl ?_
    have hi4 := h.1
    have h := h.2
    refine g_lald (x := σ.2.1 (21 + x1.toNatClampNeg) x1.toNatClampNeg) d_W_tie_100 (ly_ties hi3).1 (ly_ties hi3).2 hi4 rfl ?_
    refine g_lmul d_W_tie_101 ?_
    refine g_aload_n d_W_tie_102 0 rfl rfl ?_
    refine g_getV (x := .ref (v.2.2 20)) d_W_tie_103 fl_W_11 (by decide) rfl rfl rfl ?_
    refine g_iload_n d_W_tie_106 1 rfl rfl ?_
    have hi5 := h.1
    have h := h.2
    refine g_aald d_W_tie_107 (by decide) rfl hi5 ?_
    refine g_iload d_W_tie_108 3 rfl ?_
    have hi6 := h.1
    have h := h.2
    refine g_lald (x := σ.2.1 (21 + x1.toNatClampNeg) x4.toNatClampNeg) d_W_tie_110 (ly_ties hi5).1 (ly_ties hi5).2 hi6 rfl ?_
    refine g_lload_n d_W_tie_111 2 rfl rfl ?_
    refine g_lmul d_W_tie_112 ?_
    refine g_lsub d_W_tie_113 ?_
    have hi7 := h.1
    have h := h.2
    refine g_last d_W_tie_114 (by decide) rfl hi7 ?_
    refine g_iinc (L' := [(4, .int (x4 + 1)), (0, .ref (v.2.2 19)), (1, .int x1), (2, .long x2)]) d_W_tie_115 3 rfl (by rfl) (by decide) rfl ?_
    refine g_goto (tgt := 68) d_W_tie_118 rfl ?_
    exact g_sub [1, 2, 3, 0] rfl h
set_option maxRecDepth 20000 in
set_option maxHeartbeats 1000000 in
theorem T_W_tie_129 {l : Launch} {v : gs_V} {n : Nat} {post : gs_S → Prop} {σ : gs_S} {x1 : Int32} (h : G_W_tie_10 l v n post σ (x1 + (-1))) : G_W_tie_129 l v n post σ x1 := by
  refine g_iinc (L' := [(1, .int (x1 + (-1))), (0, .ref (v.2.2 19))]) d_W_tie_129 1 rfl (by rfl) (by decide) rfl ?_
  refine g_goto (tgt := 10) d_W_tie_132 rfl ?_
  exact g_sub [1, 0] rfl h
theorem E_W_tie {l : Launch} {v : gs_V} {n : Nat} {post : gs_S → Prop} {σ : gs_S} (h : G_W_tie_0 l v n post σ) : gM l v lyC 42 me_W_tie (n + 1) [.ref (v.2.2 19)] σ (qV v lyC 42 post) := gM_of (by decide +kernel) (Nat.le_of_ble_eq_true rfl) h
/-! LineRules$Weights.writeEquation -/
theorem d_W_writeEquation_0 : decode me_W_writeEquation.2.1 0 = .ok (.aload_n 0, 1) := by decide +kernel
theorem d_W_writeEquation_1 : decode me_W_writeEquation.2.1 1 = .ok (.getfield 19, 3) := by decide +kernel
theorem d_W_writeEquation_4 : decode me_W_writeEquation.2.1 4 = .ok (.lconst 0, 1) := by decide +kernel
theorem d_W_writeEquation_5 : decode me_W_writeEquation.2.1 5 = .ok (.invokestatic 44, 3) := by decide +kernel
theorem d_W_writeEquation_8 : decode me_W_writeEquation.2.1 8 = .ok (.aload_n 0, 1) := by decide +kernel
theorem d_W_writeEquation_9 : decode me_W_writeEquation.2.1 9 = .ok (.getfield 19, 3) := by decide +kernel
theorem d_W_writeEquation_12 : decode me_W_writeEquation.2.1 12 = .ok (.aload_n 0, 1) := by decide +kernel
theorem d_W_writeEquation_13 : decode me_W_writeEquation.2.1 13 = .ok (.getfield 31, 3) := by decide +kernel
theorem d_W_writeEquation_16 : decode me_W_writeEquation.2.1 16 = .ok (.getfield 67, 3) := by decide +kernel
theorem d_W_writeEquation_19 : decode me_W_writeEquation.2.1 19 = .ok (.iload_n 1, 1) := by decide +kernel
theorem d_W_writeEquation_20 : decode me_W_writeEquation.2.1 20 = .ok (.iaload, 1) := by decide +kernel
theorem d_W_writeEquation_21 : decode me_W_writeEquation.2.1 21 = .ok (.dup2, 1) := by decide +kernel
theorem d_W_writeEquation_22 : decode me_W_writeEquation.2.1 22 = .ok (.laload, 1) := by decide +kernel
theorem d_W_writeEquation_23 : decode me_W_writeEquation.2.1 23 = .ok (.lconst 1, 1) := by decide +kernel
theorem d_W_writeEquation_24 : decode me_W_writeEquation.2.1 24 = .ok (.ladd, 1) := by decide +kernel
theorem d_W_writeEquation_25 : decode me_W_writeEquation.2.1 25 = .ok (.lastore, 1) := by decide +kernel
theorem d_W_writeEquation_26 : decode me_W_writeEquation.2.1 26 = .ok (.aload_n 0, 1) := by decide +kernel
theorem d_W_writeEquation_27 : decode me_W_writeEquation.2.1 27 = .ok (.getfield 19, 3) := by decide +kernel
theorem d_W_writeEquation_30 : decode me_W_writeEquation.2.1 30 = .ok (.iload_n 1, 1) := by decide +kernel
theorem d_W_writeEquation_31 : decode me_W_writeEquation.2.1 31 = .ok (.aload_n 0, 1) := by decide +kernel
theorem d_W_writeEquation_32 : decode me_W_writeEquation.2.1 32 = .ok (.getfield 31, 3) := by decide +kernel
theorem d_W_writeEquation_35 : decode me_W_writeEquation.2.1 35 = .ok (.getfield 71, 3) := by decide +kernel
theorem d_W_writeEquation_38 : decode me_W_writeEquation.2.1 38 = .ok (.idiv, 1) := by decide +kernel
theorem d_W_writeEquation_39 : decode me_W_writeEquation.2.1 39 = .ok (.dup2, 1) := by decide +kernel
theorem d_W_writeEquation_40 : decode me_W_writeEquation.2.1 40 = .ok (.laload, 1) := by decide +kernel
theorem d_W_writeEquation_41 : decode me_W_writeEquation.2.1 41 = .ok (.lconst 1, 1) := by decide +kernel
theorem d_W_writeEquation_42 : decode me_W_writeEquation.2.1 42 = .ok (.lsub, 1) := by decide +kernel
theorem d_W_writeEquation_43 : decode me_W_writeEquation.2.1 43 = .ok (.lastore, 1) := by decide +kernel
theorem d_W_writeEquation_44 : decode me_W_writeEquation.2.1 44 = .ok (.aload_n 0, 1) := by decide +kernel
theorem d_W_writeEquation_45 : decode me_W_writeEquation.2.1 45 = .ok (.aload_n 0, 1) := by decide +kernel
theorem d_W_writeEquation_46 : decode me_W_writeEquation.2.1 46 = .ok (.getfield 31, 3) := by decide +kernel
theorem d_W_writeEquation_49 : decode me_W_writeEquation.2.1 49 = .ok (.iload_n 1, 1) := by decide +kernel
theorem d_W_writeEquation_50 : decode me_W_writeEquation.2.1 50 = .ok (.invokevirtual 74, 3) := by decide +kernel
theorem d_W_writeEquation_53 : decode me_W_writeEquation.2.1 53 = .ok (.iconst (-1), 1) := by decide +kernel
theorem d_W_writeEquation_54 : decode me_W_writeEquation.2.1 54 = .ok (.invokevirtual 78, 3) := by decide +kernel
theorem d_W_writeEquation_57 : decode me_W_writeEquation.2.1 57 = .ok (.aload_n 0, 1) := by decide +kernel
theorem d_W_writeEquation_58 : decode me_W_writeEquation.2.1 58 = .ok (.iload_n 1, 1) := by decide +kernel
theorem d_W_writeEquation_59 : decode me_W_writeEquation.2.1 59 = .ok (.aload_n 0, 1) := by decide +kernel
theorem d_W_writeEquation_60 : decode me_W_writeEquation.2.1 60 = .ok (.getfield 31, 3) := by decide +kernel
theorem d_W_writeEquation_63 : decode me_W_writeEquation.2.1 63 = .ok (.getfield 60, 3) := by decide +kernel
theorem d_W_writeEquation_66 : decode me_W_writeEquation.2.1 66 = .ok (.idiv, 1) := by decide +kernel
theorem d_W_writeEquation_67 : decode me_W_writeEquation.2.1 67 = .ok (.iconst 1, 1) := by decide +kernel
theorem d_W_writeEquation_68 : decode me_W_writeEquation.2.1 68 = .ok (.invokevirtual 78, 3) := by decide +kernel
theorem d_W_writeEquation_71 : decode me_W_writeEquation.2.1 71 = .ok (.aload_n 0, 1) := by decide +kernel
theorem d_W_writeEquation_72 : decode me_W_writeEquation.2.1 72 = .ok (.getfield 19, 3) := by decide +kernel
theorem d_W_writeEquation_75 : decode me_W_writeEquation.2.1 75 = .ok (.iconst 0, 1) := by decide +kernel
theorem d_W_writeEquation_76 : decode me_W_writeEquation.2.1 76 = .ok (.lconst 0, 1) := by decide +kernel
theorem d_W_writeEquation_77 : decode me_W_writeEquation.2.1 77 = .ok (.lastore, 1) := by decide +kernel
theorem d_W_writeEquation_78 : decode me_W_writeEquation.2.1 78 = .ok (.return_, 1) := by decide +kernel
abbrev G_W_writeEquation_0 (l : Launch) (v : gs_V) (n : Nat) (post : gs_S → Prop) (σ : gs_S) (x1 : Int32) : Prop := gG l v lyC 42 me_W_writeEquation n (qV v lyC 42 post) 0 [(0, .ref (v.2.2 19)), (1, .int x1)] [] σ
set_option maxRecDepth 20000 in
set_option maxHeartbeats 1000000 in
theorem T_W_writeEquation_0 {l : Launch} {v : gs_V} {n : Nat} {post : gs_S → Prop} {σ : gs_S} {x1 : Int32} (h : gM l v lyC 42 me_Y_fillJ n [.ref (v.2.2 30), .long 0] σ (qV v lyC 42 (fun σ1 => vp_in x1 256 ∧ vp_in (σ1.1 5 x1.toNatClampNeg) 4 ∧ vp_in (σ1.1 5 x1.toNatClampNeg) 4 ∧ ¬ (σ1.1 4 9) = 0 ∧ vp_in (x1 / (σ1.1 4 9)) 4 ∧ vp_in (x1 / (σ1.1 4 9)) 4 ∧ gM l v lyC 42 me_R_end n [.ref (v.2.2 4), .int x1] (gs_pL (gs_pL σ1 30 ((σ1.1 5 x1.toNatClampNeg).toNatClampNeg) ((σ1.2.1 30 ((σ1.1 5 x1.toNatClampNeg).toNatClampNeg)) + 1)) 30 ((x1 / (σ1.1 4 9)).toNatClampNeg) (((gs_pL σ1 30 ((σ1.1 5 x1.toNatClampNeg).toNatClampNeg) ((σ1.2.1 30 ((σ1.1 5 x1.toNatClampNeg).toNatClampNeg)) + 1)).2.1 30 ((x1 / (σ1.1 4 9)).toNatClampNeg)) - 1)) (qI v lyC 42 (fun r7 σ7 => gM l v lyC 42 me_W_addGain n [.ref (v.2.2 19), .int r7, .int ((-1))] σ7 (qV v lyC 42 (fun σ8 => ¬ (σ8.1 4 6) = 0 ∧ gM l v lyC 42 me_W_addGain n [.ref (v.2.2 19), .int (x1 / (σ8.1 4 6)), .int 1] σ8 (qV v lyC 42 (fun σ9 => post (gs_pL σ9 30 0 0)))))))))) : G_W_writeEquation_0 l v n post σ x1 := by
  refine g_aload_n d_W_writeEquation_0 0 rfl rfl ?_
  refine g_getV (x := .ref (v.2.2 30)) d_W_writeEquation_1 fl_W_19 (by decide) rfl rfl rfl ?_
  refine g_lconst d_W_writeEquation_4 (x := 0) (by decide) ?_
  refine g_callSv (av := [.ref (v.2.2 30), .long 0]) (rest := []) d_W_writeEquation_5 Y_Y_fillJ lk_W_44 I_Y_fillJ rfl (Nat.le_of_ble_eq_true rfl) rfl h (fun σ1 h => ?_)
  refine g_aload_n d_W_writeEquation_8 0 rfl rfl ?_
  refine g_getV (x := .ref (v.2.2 30)) d_W_writeEquation_9 fl_W_19 (by decide) rfl rfl rfl ?_
  refine g_aload_n d_W_writeEquation_12 0 rfl rfl ?_
  refine g_getV (x := .ref (v.2.2 4)) d_W_writeEquation_13 fl_W_31 (by decide) rfl rfl rfl ?_
  refine g_getV (x := .ref (v.2.2 5)) d_W_writeEquation_16 fl_W_67 (by decide) rfl rfl rfl ?_
  refine g_iload_n d_W_writeEquation_19 1 rfl rfl ?_
  have hi2 := h.1
  have h := h.2
  refine g_iald (x := σ1.1 5 x1.toNatClampNeg) d_W_writeEquation_20 (by decide) rfl hi2 rfl ?_
  refine g_dup2_11 d_W_writeEquation_21 rfl rfl ?_
  have hi3 := h.1
  have h := h.2
  refine g_lald (x := σ1.2.1 30 ((σ1.1 5 x1.toNatClampNeg).toNatClampNeg)) d_W_writeEquation_22 (by decide) rfl hi3 rfl ?_
  refine g_lconst d_W_writeEquation_23 (x := 1) (by decide) ?_
  refine g_ladd d_W_writeEquation_24 ?_
  have hi4 := h.1
  have h := h.2
  refine g_last d_W_writeEquation_25 (by decide) rfl hi4 ?_
  refine g_aload_n d_W_writeEquation_26 0 rfl rfl ?_
  refine g_getV (x := .ref (v.2.2 30)) d_W_writeEquation_27 fl_W_19 (by decide) rfl rfl rfl ?_
  refine g_iload_n d_W_writeEquation_30 1 rfl rfl ?_
  refine g_aload_n d_W_writeEquation_31 0 rfl rfl ?_
  refine g_getV (x := .ref (v.2.2 4)) d_W_writeEquation_32 fl_W_31 (by decide) rfl rfl rfl ?_
  refine g_getV (x := .int (σ1.1 4 9)) d_W_writeEquation_35 fl_W_71 (by decide) rfl rfl rfl ?_
  refine g_idiv d_W_writeEquation_38 h.1 ?_
  have h := h.2
  refine g_dup2_11 d_W_writeEquation_39 rfl rfl ?_
  have hi5 := h.1
  have h := h.2
  refine g_lald (x := (gs_pL σ1 30 ((σ1.1 5 x1.toNatClampNeg).toNatClampNeg) ((σ1.2.1 30 ((σ1.1 5 x1.toNatClampNeg).toNatClampNeg)) + 1)).2.1 30 ((x1 / (σ1.1 4 9)).toNatClampNeg)) d_W_writeEquation_40 (by decide) rfl hi5 rfl ?_
  refine g_lconst d_W_writeEquation_41 (x := 1) (by decide) ?_
  refine g_lsub d_W_writeEquation_42 ?_
  have hi6 := h.1
  have h := h.2
  refine g_last d_W_writeEquation_43 (by decide) rfl hi6 ?_
  refine g_aload_n d_W_writeEquation_44 0 rfl rfl ?_
  refine g_aload_n d_W_writeEquation_45 0 rfl rfl ?_
  refine g_getV (x := .ref (v.2.2 4)) d_W_writeEquation_46 fl_W_31 (by decide) rfl rfl rfl ?_
  refine g_iload_n d_W_writeEquation_49 1 rfl rfl ?_
  refine g_callVi (av := [.int x1]) (rest := [.ref (v.2.2 19)]) d_W_writeEquation_50 Y_R_end lk_W_74 (by decide) rfl rfl I_R_end rfl (Nat.le_of_ble_eq_true rfl) rfl h (fun r7 σ7 h => ?_)
  refine g_iconst d_W_writeEquation_53 (x := (-1)) (by decide) ?_
  refine g_callVv (av := [.int r7, .int ((-1))]) (rest := []) d_W_writeEquation_54 Y_W_addGain lk_W_78 (by decide) rfl rfl I_W_addGain rfl (Nat.le_of_ble_eq_true rfl) rfl h (fun σ8 h => ?_)
  refine g_aload_n d_W_writeEquation_57 0 rfl rfl ?_
  refine g_iload_n d_W_writeEquation_58 1 rfl rfl ?_
  refine g_aload_n d_W_writeEquation_59 0 rfl rfl ?_
  refine g_getV (x := .ref (v.2.2 4)) d_W_writeEquation_60 fl_W_31 (by decide) rfl rfl rfl ?_
  refine g_getV (x := .int (σ8.1 4 6)) d_W_writeEquation_63 fl_W_60 (by decide) rfl rfl rfl ?_
  refine g_idiv d_W_writeEquation_66 h.1 ?_
  have h := h.2
  refine g_iconst d_W_writeEquation_67 (x := 1) (by decide) ?_
  refine g_callVv (av := [.int (x1 / (σ8.1 4 6)), .int 1]) (rest := []) d_W_writeEquation_68 Y_W_addGain lk_W_78 (by decide) rfl rfl I_W_addGain rfl (Nat.le_of_ble_eq_true rfl) rfl h (fun σ9 h => ?_)
  refine g_aload_n d_W_writeEquation_71 0 rfl rfl ?_
  refine g_getV (x := .ref (v.2.2 30)) d_W_writeEquation_72 fl_W_19 (by decide) rfl rfl rfl ?_
  refine g_iconst d_W_writeEquation_75 (x := 0) (by decide) ?_
  refine g_lconst d_W_writeEquation_76 (x := 0) (by decide) ?_
  refine g_last d_W_writeEquation_77 (by decide) rfl (g_lit (k := 0) (by decide) (by decide)) ?_
  exact g_vret d_W_writeEquation_78 rfl h
theorem E_W_writeEquation {l : Launch} {v : gs_V} {n : Nat} {post : gs_S → Prop} {σ : gs_S} {x1 : Int32} (h : G_W_writeEquation_0 l v n post σ x1) : gM l v lyC 42 me_W_writeEquation (n + 1) [.ref (v.2.2 19), .int x1] σ (qV v lyC 42 post) := gM_of (by decide +kernel) (Nat.le_of_ble_eq_true rfl) h
/-! LineRules$Weights.writeWeight -/
theorem d_W_writeWeight_0 : decode me_W_writeWeight.2.1 0 = .ok (.aload_n 2, 1) := by decide +kernel
theorem d_W_writeWeight_1 : decode me_W_writeWeight.2.1 1 = .ok (.lconst 0, 1) := by decide +kernel
theorem d_W_writeWeight_2 : decode me_W_writeWeight.2.1 2 = .ok (.invokestatic 44, 3) := by decide +kernel
theorem d_W_writeWeight_5 : decode me_W_writeWeight.2.1 5 = .ok (.aload_n 2, 1) := by decide +kernel
theorem d_W_writeWeight_6 : decode me_W_writeWeight.2.1 6 = .ok (.iload_n 1, 1) := by decide +kernel
theorem d_W_writeWeight_7 : decode me_W_writeWeight.2.1 7 = .ok (.lconst 1, 1) := by decide +kernel
theorem d_W_writeWeight_8 : decode me_W_writeWeight.2.1 8 = .ok (.lastore, 1) := by decide +kernel
theorem d_W_writeWeight_9 : decode me_W_writeWeight.2.1 9 = .ok (.iload_n 1, 1) := by decide +kernel
theorem d_W_writeWeight_10 : decode me_W_writeWeight.2.1 10 = .ok (.iconst 1, 1) := by decide +kernel
theorem d_W_writeWeight_11 : decode me_W_writeWeight.2.1 11 = .ok (.iadd, 1) := by decide +kernel
theorem d_W_writeWeight_12 : decode me_W_writeWeight.2.1 12 = .ok (.istore_n 3, 1) := by decide +kernel
theorem d_W_writeWeight_13 : decode me_W_writeWeight.2.1 13 = .ok (.iload_n 3, 1) := by decide +kernel
theorem d_W_writeWeight_14 : decode me_W_writeWeight.2.1 14 = .ok (.aload_n 0, 1) := by decide +kernel
theorem d_W_writeWeight_15 : decode me_W_writeWeight.2.1 15 = .ok (.getfield 31, 3) := by decide +kernel
theorem d_W_writeWeight_18 : decode me_W_writeWeight.2.1 18 = .ok (.getfield 60, 3) := by decide +kernel
theorem d_W_writeWeight_21 : decode me_W_writeWeight.2.1 21 = .ok (.if_icmp .ge 110, 3) := by decide +kernel
theorem d_W_writeWeight_24 : decode me_W_writeWeight.2.1 24 = .ok (.lconst 0, 1) := by decide +kernel
theorem d_W_writeWeight_25 : decode me_W_writeWeight.2.1 25 = .ok (.lstore 4, 2) := by decide +kernel
theorem d_W_writeWeight_27 : decode me_W_writeWeight.2.1 27 = .ok (.iconst 0, 1) := by decide +kernel
theorem d_W_writeWeight_28 : decode me_W_writeWeight.2.1 28 = .ok (.istore 6, 2) := by decide +kernel
theorem d_W_writeWeight_30 : decode me_W_writeWeight.2.1 30 = .ok (.iload 6, 2) := by decide +kernel
theorem d_W_writeWeight_32 : decode me_W_writeWeight.2.1 32 = .ok (.iload_n 3, 1) := by decide +kernel
theorem d_W_writeWeight_33 : decode me_W_writeWeight.2.1 33 = .ok (.if_icmp .ge 28, 3) := by decide +kernel
theorem d_W_writeWeight_36 : decode me_W_writeWeight.2.1 36 = .ok (.lload 4, 2) := by decide +kernel
theorem d_W_writeWeight_38 : decode me_W_writeWeight.2.1 38 = .ok (.aload_n 0, 1) := by decide +kernel
theorem d_W_writeWeight_39 : decode me_W_writeWeight.2.1 39 = .ok (.getfield 11, 3) := by decide +kernel
theorem d_W_writeWeight_42 : decode me_W_writeWeight.2.1 42 = .ok (.iload_n 3, 1) := by decide +kernel
theorem d_W_writeWeight_43 : decode me_W_writeWeight.2.1 43 = .ok (.aaload, 1) := by decide +kernel
theorem d_W_writeWeight_44 : decode me_W_writeWeight.2.1 44 = .ok (.iload 6, 2) := by decide +kernel
theorem d_W_writeWeight_46 : decode me_W_writeWeight.2.1 46 = .ok (.laload, 1) := by decide +kernel
theorem d_W_writeWeight_47 : decode me_W_writeWeight.2.1 47 = .ok (.aload_n 2, 1) := by decide +kernel
theorem d_W_writeWeight_48 : decode me_W_writeWeight.2.1 48 = .ok (.iload 6, 2) := by decide +kernel
theorem d_W_writeWeight_50 : decode me_W_writeWeight.2.1 50 = .ok (.laload, 1) := by decide +kernel
theorem d_W_writeWeight_51 : decode me_W_writeWeight.2.1 51 = .ok (.lmul, 1) := by decide +kernel
theorem d_W_writeWeight_52 : decode me_W_writeWeight.2.1 52 = .ok (.ladd, 1) := by decide +kernel
theorem d_W_writeWeight_53 : decode me_W_writeWeight.2.1 53 = .ok (.lstore 4, 2) := by decide +kernel
theorem d_W_writeWeight_55 : decode me_W_writeWeight.2.1 55 = .ok (.iinc 6 1, 3) := by decide +kernel
theorem d_W_writeWeight_58 : decode me_W_writeWeight.2.1 58 = .ok (.goto (-28), 3) := by decide +kernel
theorem d_W_writeWeight_61 : decode me_W_writeWeight.2.1 61 = .ok (.aload_n 0, 1) := by decide +kernel
theorem d_W_writeWeight_62 : decode me_W_writeWeight.2.1 62 = .ok (.getfield 11, 3) := by decide +kernel
theorem d_W_writeWeight_65 : decode me_W_writeWeight.2.1 65 = .ok (.iload_n 3, 1) := by decide +kernel
theorem d_W_writeWeight_66 : decode me_W_writeWeight.2.1 66 = .ok (.aaload, 1) := by decide +kernel
theorem d_W_writeWeight_67 : decode me_W_writeWeight.2.1 67 = .ok (.iload_n 3, 1) := by decide +kernel
theorem d_W_writeWeight_68 : decode me_W_writeWeight.2.1 68 = .ok (.laload, 1) := by decide +kernel
theorem d_W_writeWeight_69 : decode me_W_writeWeight.2.1 69 = .ok (.lconst 0, 1) := by decide +kernel
theorem d_W_writeWeight_70 : decode me_W_writeWeight.2.1 70 = .ok (.lcmp, 1) := by decide +kernel
theorem d_W_writeWeight_71 : decode me_W_writeWeight.2.1 71 = .ok (.ifCond .eq 54, 3) := by decide +kernel
theorem d_W_writeWeight_74 : decode me_W_writeWeight.2.1 74 = .ok (.lload 4, 2) := by decide +kernel
theorem d_W_writeWeight_76 : decode me_W_writeWeight.2.1 76 = .ok (.lconst 0, 1) := by decide +kernel
theorem d_W_writeWeight_77 : decode me_W_writeWeight.2.1 77 = .ok (.lcmp, 1) := by decide +kernel
theorem d_W_writeWeight_78 : decode me_W_writeWeight.2.1 78 = .ok (.ifCond .ne 6, 3) := by decide +kernel
theorem d_W_writeWeight_81 : decode me_W_writeWeight.2.1 81 = .ok (.goto 44, 3) := by decide +kernel
theorem d_W_writeWeight_84 : decode me_W_writeWeight.2.1 84 = .ok (.iconst 0, 1) := by decide +kernel
theorem d_W_writeWeight_85 : decode me_W_writeWeight.2.1 85 = .ok (.istore 6, 2) := by decide +kernel
theorem d_W_writeWeight_87 : decode me_W_writeWeight.2.1 87 = .ok (.iload 6, 2) := by decide +kernel
theorem d_W_writeWeight_89 : decode me_W_writeWeight.2.1 89 = .ok (.iload_n 3, 1) := by decide +kernel
theorem d_W_writeWeight_90 : decode me_W_writeWeight.2.1 90 = .ok (.if_icmp .ge 24, 3) := by decide +kernel
theorem d_W_writeWeight_93 : decode me_W_writeWeight.2.1 93 = .ok (.aload_n 2, 1) := by decide +kernel
theorem d_W_writeWeight_94 : decode me_W_writeWeight.2.1 94 = .ok (.iload 6, 2) := by decide +kernel
theorem d_W_writeWeight_96 : decode me_W_writeWeight.2.1 96 = .ok (.dup2, 1) := by decide +kernel
theorem d_W_writeWeight_97 : decode me_W_writeWeight.2.1 97 = .ok (.laload, 1) := by decide +kernel
theorem d_W_writeWeight_98 : decode me_W_writeWeight.2.1 98 = .ok (.aload_n 0, 1) := by decide +kernel
theorem d_W_writeWeight_99 : decode me_W_writeWeight.2.1 99 = .ok (.getfield 11, 3) := by decide +kernel
theorem d_W_writeWeight_102 : decode me_W_writeWeight.2.1 102 = .ok (.iload_n 3, 1) := by decide +kernel
theorem d_W_writeWeight_103 : decode me_W_writeWeight.2.1 103 = .ok (.aaload, 1) := by decide +kernel
theorem d_W_writeWeight_104 : decode me_W_writeWeight.2.1 104 = .ok (.iload_n 3, 1) := by decide +kernel
theorem d_W_writeWeight_105 : decode me_W_writeWeight.2.1 105 = .ok (.laload, 1) := by decide +kernel
theorem d_W_writeWeight_106 : decode me_W_writeWeight.2.1 106 = .ok (.lmul, 1) := by decide +kernel
theorem d_W_writeWeight_107 : decode me_W_writeWeight.2.1 107 = .ok (.lastore, 1) := by decide +kernel
theorem d_W_writeWeight_108 : decode me_W_writeWeight.2.1 108 = .ok (.iinc 6 1, 3) := by decide +kernel
theorem d_W_writeWeight_111 : decode me_W_writeWeight.2.1 111 = .ok (.goto (-24), 3) := by decide +kernel
theorem d_W_writeWeight_114 : decode me_W_writeWeight.2.1 114 = .ok (.aload_n 2, 1) := by decide +kernel
theorem d_W_writeWeight_115 : decode me_W_writeWeight.2.1 115 = .ok (.iload_n 3, 1) := by decide +kernel
theorem d_W_writeWeight_116 : decode me_W_writeWeight.2.1 116 = .ok (.lload 4, 2) := by decide +kernel
theorem d_W_writeWeight_118 : decode me_W_writeWeight.2.1 118 = .ok (.lneg, 1) := by decide +kernel
theorem d_W_writeWeight_119 : decode me_W_writeWeight.2.1 119 = .ok (.lastore, 1) := by decide +kernel
theorem d_W_writeWeight_120 : decode me_W_writeWeight.2.1 120 = .ok (.aload_n 0, 1) := by decide +kernel
theorem d_W_writeWeight_121 : decode me_W_writeWeight.2.1 121 = .ok (.aload_n 2, 1) := by decide +kernel
theorem d_W_writeWeight_122 : decode me_W_writeWeight.2.1 122 = .ok (.invokevirtual 91, 3) := by decide +kernel
theorem d_W_writeWeight_125 : decode me_W_writeWeight.2.1 125 = .ok (.iinc 3 1, 3) := by decide +kernel
theorem d_W_writeWeight_128 : decode me_W_writeWeight.2.1 128 = .ok (.goto (-115), 3) := by decide +kernel
theorem d_W_writeWeight_131 : decode me_W_writeWeight.2.1 131 = .ok (.aload_n 2, 1) := by decide +kernel
theorem d_W_writeWeight_132 : decode me_W_writeWeight.2.1 132 = .ok (.iload_n 1, 1) := by decide +kernel
theorem d_W_writeWeight_133 : decode me_W_writeWeight.2.1 133 = .ok (.laload, 1) := by decide +kernel
theorem d_W_writeWeight_134 : decode me_W_writeWeight.2.1 134 = .ok (.lconst 0, 1) := by decide +kernel
theorem d_W_writeWeight_135 : decode me_W_writeWeight.2.1 135 = .ok (.lcmp, 1) := by decide +kernel
theorem d_W_writeWeight_136 : decode me_W_writeWeight.2.1 136 = .ok (.ifCond .ge 29, 3) := by decide +kernel
theorem d_W_writeWeight_139 : decode me_W_writeWeight.2.1 139 = .ok (.iconst 0, 1) := by decide +kernel
theorem d_W_writeWeight_140 : decode me_W_writeWeight.2.1 140 = .ok (.istore_n 3, 1) := by decide +kernel
theorem d_W_writeWeight_141 : decode me_W_writeWeight.2.1 141 = .ok (.iload_n 3, 1) := by decide +kernel
theorem d_W_writeWeight_142 : decode me_W_writeWeight.2.1 142 = .ok (.aload_n 0, 1) := by decide +kernel
theorem d_W_writeWeight_143 : decode me_W_writeWeight.2.1 143 = .ok (.getfield 31, 3) := by decide +kernel
theorem d_W_writeWeight_146 : decode me_W_writeWeight.2.1 146 = .ok (.getfield 60, 3) := by decide +kernel
theorem d_W_writeWeight_149 : decode me_W_writeWeight.2.1 149 = .ok (.if_icmp .ge 16, 3) := by decide +kernel
theorem d_W_writeWeight_152 : decode me_W_writeWeight.2.1 152 = .ok (.aload_n 2, 1) := by decide +kernel
theorem d_W_writeWeight_153 : decode me_W_writeWeight.2.1 153 = .ok (.iload_n 3, 1) := by decide +kernel
theorem d_W_writeWeight_154 : decode me_W_writeWeight.2.1 154 = .ok (.aload_n 2, 1) := by decide +kernel
theorem d_W_writeWeight_155 : decode me_W_writeWeight.2.1 155 = .ok (.iload_n 3, 1) := by decide +kernel
theorem d_W_writeWeight_156 : decode me_W_writeWeight.2.1 156 = .ok (.laload, 1) := by decide +kernel
theorem d_W_writeWeight_157 : decode me_W_writeWeight.2.1 157 = .ok (.lneg, 1) := by decide +kernel
theorem d_W_writeWeight_158 : decode me_W_writeWeight.2.1 158 = .ok (.lastore, 1) := by decide +kernel
theorem d_W_writeWeight_159 : decode me_W_writeWeight.2.1 159 = .ok (.iinc 3 1, 3) := by decide +kernel
theorem d_W_writeWeight_162 : decode me_W_writeWeight.2.1 162 = .ok (.goto (-21), 3) := by decide +kernel
theorem d_W_writeWeight_165 : decode me_W_writeWeight.2.1 165 = .ok (.return_, 1) := by decide +kernel
abbrev G_W_writeWeight_0 (l : Launch) (v : gs_V) (n : Nat) (post : gs_S → Prop) (σ : gs_S) (x1 : Int32) (x2 : Nat) : Prop := gG l v lyC 42 me_W_writeWeight n (qV v lyC 42 post) 0 [(0, .ref (v.2.2 19)), (1, .int x1), (2, .ref (v.2.2 x2))] [] σ
abbrev G_W_writeWeight_13 (l : Launch) (v : gs_V) (n : Nat) (post : gs_S → Prop) (σ : gs_S) (x1 : Int32) (x2 : Nat) (x3 : Int32) : Prop := gG l v lyC 42 me_W_writeWeight n (qV v lyC 42 post) 13 [(0, .ref (v.2.2 19)), (1, .int x1), (2, .ref (v.2.2 x2)), (3, .int x3)] [] σ
abbrev G_W_writeWeight_30 (l : Launch) (v : gs_V) (n : Nat) (post : gs_S → Prop) (σ : gs_S) (x1 : Int32) (x2 : Nat) (x3 : Int32) (x4 : Int64) (x6 : Int32) : Prop := gG l v lyC 42 me_W_writeWeight n (qV v lyC 42 post) 30 [(0, .ref (v.2.2 19)), (1, .int x1), (2, .ref (v.2.2 x2)), (3, .int x3), (4, .long x4), (6, .int x6)] [] σ
abbrev G_W_writeWeight_87 (l : Launch) (v : gs_V) (n : Nat) (post : gs_S → Prop) (σ : gs_S) (x1 : Int32) (x2 : Nat) (x3 : Int32) (x4 : Int64) (x6 : Int32) : Prop := gG l v lyC 42 me_W_writeWeight n (qV v lyC 42 post) 87 [(0, .ref (v.2.2 19)), (1, .int x1), (2, .ref (v.2.2 x2)), (3, .int x3), (4, .long x4), (6, .int x6)] [] σ
abbrev G_W_writeWeight_125 (l : Launch) (v : gs_V) (n : Nat) (post : gs_S → Prop) (σ : gs_S) (x1 : Int32) (x2 : Nat) (x3 : Int32) : Prop := gG l v lyC 42 me_W_writeWeight n (qV v lyC 42 post) 125 [(0, .ref (v.2.2 19)), (1, .int x1), (2, .ref (v.2.2 x2)), (3, .int x3)] [] σ
abbrev G_W_writeWeight_141 (l : Launch) (v : gs_V) (n : Nat) (post : gs_S → Prop) (σ : gs_S) (x2 : Nat) (x3 : Int32) : Prop := gG l v lyC 42 me_W_writeWeight n (qV v lyC 42 post) 141 [(0, .ref (v.2.2 19)), (2, .ref (v.2.2 x2)), (3, .int x3)] [] σ
abbrev G_W_writeWeight_165 (l : Launch) (v : gs_V) (n : Nat) (post : gs_S → Prop) (σ : gs_S) : Prop := gG l v lyC 42 me_W_writeWeight n (qV v lyC 42 post) 165 [] [] σ
set_option maxRecDepth 20000 in
set_option maxHeartbeats 1000000 in
theorem T_W_writeWeight_0 {l : Launch} {v : gs_V} {n : Nat} {post : gs_S → Prop} {σ : gs_S} {x1 : Int32} {x2 : Nat} (hx2 : x2 < 42 ∧ lyC x2 = .inl (1, 4, 0)) (h : gM l v lyC 42 me_Y_fillJ n [.ref (v.2.2 x2), .long 0] σ (qV v lyC 42 (fun σ1 => vp_in x1 4 ∧ G_W_writeWeight_13 l v n post (gs_pL σ1 x2 x1.toNatClampNeg 1) x1 x2 (x1 + 1)))) : G_W_writeWeight_0 l v n post σ x1 x2 := by
  refine g_aload_n d_W_writeWeight_0 2 rfl rfl ?_
  refine g_lconst d_W_writeWeight_1 (x := 0) (by decide) ?_
  refine g_callSv (av := [.ref (v.2.2 x2), .long 0]) (rest := []) d_W_writeWeight_2 Y_Y_fillJ lk_W_44 I_Y_fillJ rfl (Nat.le_of_ble_eq_true rfl) rfl h (fun σ1 h => ?_)
  refine g_aload_n d_W_writeWeight_5 2 rfl rfl ?_
  refine g_iload_n d_W_writeWeight_6 1 rfl rfl ?_
  refine g_lconst d_W_writeWeight_7 (x := 1) (by decide) ?_
  have hi2 := h.1
  have h := h.2
  refine g_last d_W_writeWeight_8 hx2.1 hx2.2 hi2 ?_
  refine g_iload_n d_W_writeWeight_9 1 rfl rfl ?_
  refine g_iconst d_W_writeWeight_10 (x := 1) (by decide) ?_
  refine g_iadd d_W_writeWeight_11 ?_
  refine g_istore_n (L' := [(3, .int (x1 + 1)), (0, .ref (v.2.2 19)), (1, .int x1), (2, .ref (v.2.2 x2))]) d_W_writeWeight_12 rfl (by decide) rfl ?_
  exact g_sub [1, 2, 3, 0] rfl h
set_option maxRecDepth 20000 in
set_option maxHeartbeats 1000000 in
theorem T_W_writeWeight_13 {l : Launch} {v : gs_V} {n : Nat} {post : gs_S → Prop} {σ : gs_S} {x1 : Int32} {x2 : Nat} {x3 : Int32} (hx2 : x2 < 42 ∧ lyC x2 = .inl (1, 4, 0)) (h : (((σ.1 4 6) ≤ x3 → vp_in x1 4 ∧ ((0 ≤ (σ.2.1 x2 x1.toNatClampNeg) → G_W_writeWeight_165 l v n post σ) ∧ (¬ 0 ≤ (σ.2.1 x2 x1.toNatClampNeg) → G_W_writeWeight_141 l v n post σ x2 0))) ∧ (¬ (σ.1 4 6) ≤ x3 → G_W_writeWeight_30 l v n post σ x1 x2 x3 0 0))) : G_W_writeWeight_13 l v n post σ x1 x2 x3 := by
  refine g_iload_n d_W_writeWeight_13 3 rfl rfl ?_
  refine g_aload_n d_W_writeWeight_14 0 rfl rfl ?_
  refine g_getV (x := .ref (v.2.2 4)) d_W_writeWeight_15 fl_W_31 (by decide) rfl rfl rfl ?_
  refine g_getV (x := .int (σ.1 4 6)) d_W_writeWeight_18 fl_W_60 (by decide) rfl rfl rfl ?_
  refine g_icmp_ge (tgt := 131) d_W_writeWeight_21 rfl (fun hc => ?_) (fun hc => ?_)
  · have h := h.1 hc
    refine g_aload_n d_W_writeWeight_131 2 rfl rfl ?_
    refine g_iload_n d_W_writeWeight_132 1 rfl rfl ?_
    have hi1 := h.1
    have h := h.2
    refine g_lald (x := σ.2.1 x2 x1.toNatClampNeg) d_W_writeWeight_133 hx2.1 hx2.2 hi1 rfl ?_
    refine g_lconst d_W_writeWeight_134 (x := 0) (by decide) ?_
    refine g_lcmp_ge (tgt := 165) d_W_writeWeight_135 d_W_writeWeight_136 rfl (fun hc => ?_) (fun hc => ?_)
    · have h := h.1 hc
      exact g_sub [] rfl h
    · have h := h.2 hc
      refine g_iconst d_W_writeWeight_139 (x := 0) (by decide) ?_
      refine g_istore_n (L' := [(3, .int 0), (0, .ref (v.2.2 19)), (1, .int x1), (2, .ref (v.2.2 x2))]) d_W_writeWeight_140 rfl (by decide) rfl ?_
      exact g_sub [1, 3, 0] rfl h
  · have h := h.2 hc
    refine g_lconst d_W_writeWeight_24 (x := 0) (by decide) ?_
    refine g_lstore (L' := [(4, .long 0), (0, .ref (v.2.2 19)), (1, .int x1), (2, .ref (v.2.2 x2)), (3, .int x3)]) d_W_writeWeight_25 (by decide) rfl ?_
    refine g_iconst d_W_writeWeight_27 (x := 0) (by decide) ?_
    refine g_istore (L' := [(6, .int 0), (4, .long 0), (0, .ref (v.2.2 19)), (1, .int x1), (2, .ref (v.2.2 x2)), (3, .int x3)]) d_W_writeWeight_28 (by decide) rfl ?_
    exact g_sub [2, 3, 4, 5, 1, 0] rfl h
set_option maxRecDepth 20000 in
set_option maxHeartbeats 1000000 in
theorem T_W_writeWeight_30 {l : Launch} {v : gs_V} {n : Nat} {post : gs_S → Prop} {σ : gs_S} {x1 : Int32} {x2 : Nat} {x3 : Int32} {x4 : Int64} {x6 : Int32} (hx2 : x2 < 42 ∧ lyC x2 = .inl (1, 4, 0)) (h : ((x3 ≤ x6 → vp_in x3 4 ∧ vp_in x3 4 ∧ (((σ.2.1 (21 + x3.toNatClampNeg) x3.toNatClampNeg) = 0 → G_W_writeWeight_125 l v n post σ x1 x2 x3) ∧ (¬ (σ.2.1 (21 + x3.toNatClampNeg) x3.toNatClampNeg) = 0 → ((¬ x4 = 0 → G_W_writeWeight_87 l v n post σ x1 x2 x3 x4 0) ∧ (x4 = 0 → G_W_writeWeight_125 l v n post σ x1 x2 x3))))) ∧ (¬ x3 ≤ x6 → vp_in x3 4 ∧ vp_in x6 4 ∧ vp_in x6 4 ∧ G_W_writeWeight_30 l v n post σ x1 x2 x3 (x4 + ((σ.2.1 (21 + x3.toNatClampNeg) x6.toNatClampNeg) * (σ.2.1 x2 x6.toNatClampNeg))) (x6 + 1)))) : G_W_writeWeight_30 l v n post σ x1 x2 x3 x4 x6 := by
  refine g_iload d_W_writeWeight_30 5 rfl ?_
  refine g_iload_n d_W_writeWeight_32 3 rfl rfl ?_
  refine g_icmp_ge (tgt := 61) d_W_writeWeight_33 rfl (fun hc => ?_) (fun hc => ?_)
  · have h := h.1 hc
    refine g_aload_n d_W_writeWeight_61 0 rfl rfl ?_
    refine g_getV (x := .ref (v.2.2 20)) d_W_writeWeight_62 fl_W_11 (by decide) rfl rfl rfl ?_
    refine g_iload_n d_W_writeWeight_65 3 rfl rfl ?_
    have hi1 := h.1
    have h := h.2
    refine g_aald d_W_writeWeight_66 (by decide) rfl hi1 ?_
    refine g_iload_n d_W_writeWeight_67 3 rfl rfl ?_
    have hi2 := h.1
    have h := h.2
    refine g_lald (x := σ.2.1 (21 + x3.toNatClampNeg) x3.toNatClampNeg) d_W_writeWeight_68 (ly_ties hi1).1 (ly_ties hi1).2 hi2 rfl ?_
    refine g_lconst d_W_writeWeight_69 (x := 0) (by decide) ?_
    refine g_lcmp_eq (tgt := 125) d_W_writeWeight_70 d_W_writeWeight_71 rfl (fun hc => ?_) (fun hc => ?_)
    · have h := h.1 hc
      exact g_sub [0, 1, 2, 3] rfl h
    · have h := h.2 hc
      refine g_lload d_W_writeWeight_74 4 rfl ?_
      refine g_lconst d_W_writeWeight_76 (x := 0) (by decide) ?_
      refine g_lcmp_ne (tgt := 84) d_W_writeWeight_77 d_W_writeWeight_78 rfl (fun hc => ?_) (fun hc => ?_)
      · have h := h.1 hc
        refine g_iconst d_W_writeWeight_84 (x := 0) (by decide) ?_
        refine g_istore (L' := [(6, .int 0), (0, .ref (v.2.2 19)), (1, .int x1), (2, .ref (v.2.2 x2)), (3, .int x3), (4, .long x4)]) d_W_writeWeight_85 (by decide) rfl ?_
        exact g_sub [1, 2, 3, 4, 5, 0] rfl h
      · have h := h.2 hc
        refine g_goto (tgt := 125) d_W_writeWeight_81 rfl ?_
        exact g_sub [0, 1, 2, 3] rfl h
  · have h := h.2 hc
    refine g_lload d_W_writeWeight_36 4 rfl ?_
    refine g_aload_n d_W_writeWeight_38 0 rfl rfl ?_
    refine g_getV (x := .ref (v.2.2 20)) d_W_writeWeight_39 fl_W_11 (by decide) rfl rfl rfl ?_
    refine g_iload_n d_W_writeWeight_42 3 rfl rfl ?_
    have hi3 := h.1
    have h := h.2
    refine g_aald d_W_writeWeight_43 (by decide) rfl hi3 ?_
    refine g_iload d_W_writeWeight_44 5 rfl ?_
    have hi4 := h.1
    have h := h.2
    refine g_lald (x := σ.2.1 (21 + x3.toNatClampNeg) x6.toNatClampNeg) d_W_writeWeight_46 (ly_ties hi3).1 (ly_ties hi3).2 hi4 rfl ?_
    refine g_aload_n d_W_writeWeight_47 2 rfl rfl ?_
    refine g_iload d_W_writeWeight_48 5 rfl ?_
    have hi5 := h.1
    have h := h.2
    refine g_lald (x := σ.2.1 x2 x6.toNatClampNeg) d_W_writeWeight_50 hx2.1 hx2.2 hi5 rfl ?_
    refine g_lmul d_W_writeWeight_51 ?_
    refine g_ladd d_W_writeWeight_52 ?_
    refine g_lstore (L' := [(4, .long (x4 + ((σ.2.1 (21 + x3.toNatClampNeg) x6.toNatClampNeg) * (σ.2.1 x2 x6.toNatClampNeg)))), (0, .ref (v.2.2 19)), (1, .int x1), (2, .ref (v.2.2 x2)), (3, .int x3), (6, .int x6)]) d_W_writeWeight_53 (by decide) rfl ?_
    refine g_iinc (L' := [(6, .int (x6 + 1)), (4, .long (x4 + ((σ.2.1 (21 + x3.toNatClampNeg) x6.toNatClampNeg) * (σ.2.1 x2 x6.toNatClampNeg)))), (0, .ref (v.2.2 19)), (1, .int x1), (2, .ref (v.2.2 x2)), (3, .int x3)]) d_W_writeWeight_55 5 rfl (by rfl) (by decide) rfl ?_
    refine g_goto (tgt := 30) d_W_writeWeight_58 rfl ?_
    exact g_sub [2, 3, 4, 5, 1, 0] rfl h
set_option maxRecDepth 20000 in
set_option maxHeartbeats 1000000 in
theorem T_W_writeWeight_87 {l : Launch} {v : gs_V} {n : Nat} {post : gs_S → Prop} {σ : gs_S} {x1 : Int32} {x2 : Nat} {x3 : Int32} {x4 : Int64} {x6 : Int32} (hx2 : x2 < 42 ∧ lyC x2 = .inl (1, 4, 0)) (h : ((x3 ≤ x6 → vp_in x3 4 ∧ gM l v lyC 42 me_W_shorten n [.ref (v.2.2 19), .ref (v.2.2 x2)] (gs_pL σ x2 x3.toNatClampNeg (-x4)) (qV v lyC 42 (fun σ2 => G_W_writeWeight_125 l v n post σ2 x1 x2 x3))) ∧ (¬ x3 ≤ x6 → vp_in x6 4 ∧ vp_in x3 4 ∧ vp_in x3 4 ∧ vp_in x6 4 ∧ G_W_writeWeight_87 l v n post (gs_pL σ x2 x6.toNatClampNeg ((σ.2.1 x2 x6.toNatClampNeg) * (σ.2.1 (21 + x3.toNatClampNeg) x3.toNatClampNeg))) x1 x2 x3 x4 (x6 + 1)))) : G_W_writeWeight_87 l v n post σ x1 x2 x3 x4 x6 := by
  refine g_iload d_W_writeWeight_87 5 rfl ?_
  refine g_iload_n d_W_writeWeight_89 3 rfl rfl ?_
  refine g_icmp_ge (tgt := 114) d_W_writeWeight_90 rfl (fun hc => ?_) (fun hc => ?_)
  · have h := h.1 hc
    refine g_aload_n d_W_writeWeight_114 2 rfl rfl ?_
    refine g_iload_n d_W_writeWeight_115 3 rfl rfl ?_
    refine g_lload d_W_writeWeight_116 4 rfl ?_
    refine g_lneg d_W_writeWeight_118 ?_
    have hi1 := h.1
    have h := h.2
    refine g_last d_W_writeWeight_119 hx2.1 hx2.2 hi1 ?_
    refine g_aload_n d_W_writeWeight_120 0 rfl rfl ?_
    refine g_aload_n d_W_writeWeight_121 2 rfl rfl ?_
    refine g_callVv (av := [.ref (v.2.2 x2)]) (rest := []) d_W_writeWeight_122 Y_W_shorten lk_W_91 (by decide) rfl rfl I_W_shorten rfl (Nat.le_of_ble_eq_true rfl) rfl h (fun σ2 h => ?_)
    exact g_sub [0, 1, 2, 3] rfl h
  · have h := h.2 hc
    refine g_aload_n d_W_writeWeight_93 2 rfl rfl ?_
    refine g_iload d_W_writeWeight_94 5 rfl ?_
    refine g_dup2_11 d_W_writeWeight_96 rfl rfl ?_
    have hi3 := h.1
    have h := h.2
    refine g_lald (x := σ.2.1 x2 x6.toNatClampNeg) d_W_writeWeight_97 hx2.1 hx2.2 hi3 rfl ?_
    refine g_aload_n d_W_writeWeight_98 0 rfl rfl ?_
    refine g_getV (x := .ref (v.2.2 20)) d_W_writeWeight_99 fl_W_11 (by decide) rfl rfl rfl ?_
    refine g_iload_n d_W_writeWeight_102 3 rfl rfl ?_
    have hi4 := h.1
    have h := h.2
    refine g_aald d_W_writeWeight_103 (by decide) rfl hi4 ?_
    refine g_iload_n d_W_writeWeight_104 3 rfl rfl ?_
    have hi5 := h.1
    have h := h.2
    refine g_lald (x := σ.2.1 (21 + x3.toNatClampNeg) x3.toNatClampNeg) d_W_writeWeight_105 (ly_ties hi4).1 (ly_ties hi4).2 hi5 rfl ?_
    refine g_lmul d_W_writeWeight_106 ?_
    have hi6 := h.1
    have h := h.2
    refine g_last d_W_writeWeight_107 hx2.1 hx2.2 hi6 ?_
    refine g_iinc (L' := [(6, .int (x6 + 1)), (0, .ref (v.2.2 19)), (1, .int x1), (2, .ref (v.2.2 x2)), (3, .int x3), (4, .long x4)]) d_W_writeWeight_108 5 rfl (by rfl) (by decide) rfl ?_
    refine g_goto (tgt := 87) d_W_writeWeight_111 rfl ?_
    exact g_sub [1, 2, 3, 4, 5, 0] rfl h
set_option maxRecDepth 20000 in
set_option maxHeartbeats 1000000 in
theorem T_W_writeWeight_125 {l : Launch} {v : gs_V} {n : Nat} {post : gs_S → Prop} {σ : gs_S} {x1 : Int32} {x2 : Nat} {x3 : Int32} (hx2 : x2 < 42 ∧ lyC x2 = .inl (1, 4, 0)) (h : G_W_writeWeight_13 l v n post σ x1 x2 (x3 + 1)) : G_W_writeWeight_125 l v n post σ x1 x2 x3 := by
  refine g_iinc (L' := [(3, .int (x3 + 1)), (0, .ref (v.2.2 19)), (1, .int x1), (2, .ref (v.2.2 x2))]) d_W_writeWeight_125 3 rfl (by rfl) (by decide) rfl ?_
  refine g_goto (tgt := 13) d_W_writeWeight_128 rfl ?_
  exact g_sub [1, 2, 3, 0] rfl h
set_option maxRecDepth 20000 in
set_option maxHeartbeats 1000000 in
theorem T_W_writeWeight_141 {l : Launch} {v : gs_V} {n : Nat} {post : gs_S → Prop} {σ : gs_S} {x2 : Nat} {x3 : Int32} (hx2 : x2 < 42 ∧ lyC x2 = .inl (1, 4, 0)) (h : (((σ.1 4 6) ≤ x3 → G_W_writeWeight_165 l v n post σ) ∧ (¬ (σ.1 4 6) ≤ x3 → vp_in x3 4 ∧ vp_in x3 4 ∧ G_W_writeWeight_141 l v n post (gs_pL σ x2 x3.toNatClampNeg (-(σ.2.1 x2 x3.toNatClampNeg))) x2 (x3 + 1)))) : G_W_writeWeight_141 l v n post σ x2 x3 := by
  refine g_iload_n d_W_writeWeight_141 2 rfl rfl ?_
  refine g_aload_n d_W_writeWeight_142 0 rfl rfl ?_
  refine g_getV (x := .ref (v.2.2 4)) d_W_writeWeight_143 fl_W_31 (by decide) rfl rfl rfl ?_
  refine g_getV (x := .int (σ.1 4 6)) d_W_writeWeight_146 fl_W_60 (by decide) rfl rfl rfl ?_
  refine g_icmp_ge (tgt := 165) d_W_writeWeight_149 rfl (fun hc => ?_) (fun hc => ?_)
  · have h := h.1 hc
    exact g_sub [] rfl h
  · have h := h.2 hc
    refine g_aload_n d_W_writeWeight_152 1 rfl rfl ?_
    refine g_iload_n d_W_writeWeight_153 2 rfl rfl ?_
    refine g_aload_n d_W_writeWeight_154 1 rfl rfl ?_
    refine g_iload_n d_W_writeWeight_155 2 rfl rfl ?_
    have hi1 := h.1
    have h := h.2
    refine g_lald (x := σ.2.1 x2 x3.toNatClampNeg) d_W_writeWeight_156 hx2.1 hx2.2 hi1 rfl ?_
    refine g_lneg d_W_writeWeight_157 ?_
    have hi2 := h.1
    have h := h.2
    refine g_last d_W_writeWeight_158 hx2.1 hx2.2 hi2 ?_
    refine g_iinc (L' := [(3, .int (x3 + 1)), (0, .ref (v.2.2 19)), (2, .ref (v.2.2 x2))]) d_W_writeWeight_159 2 rfl (by rfl) (by decide) rfl ?_
    refine g_goto (tgt := 141) d_W_writeWeight_162 rfl ?_
    exact g_sub [1, 2, 0] rfl h
set_option maxRecDepth 20000 in
set_option maxHeartbeats 1000000 in
theorem T_W_writeWeight_165 {l : Launch} {v : gs_V} {n : Nat} {post : gs_S → Prop} {σ : gs_S} (h : post σ) : G_W_writeWeight_165 l v n post σ := by
  exact g_vret d_W_writeWeight_165 rfl h
theorem E_W_writeWeight {l : Launch} {v : gs_V} {n : Nat} {post : gs_S → Prop} {σ : gs_S} {x1 : Int32} {x2 : Nat} (h : G_W_writeWeight_0 l v n post σ x1 x2) : gM l v lyC 42 me_W_writeWeight (n + 1) [.ref (v.2.2 19), .int x1, .ref (v.2.2 x2)] σ (qV v lyC 42 post) := gM_of (by decide +kernel) (Nat.le_of_ble_eq_true rfl) h
