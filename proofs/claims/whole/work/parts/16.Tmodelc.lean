/-! LineRulesModel.makesAll -/
theorem d_M_makesAll_0 : decode me_M_makesAll.2.1 0 = .ok (.iconst 0, 1) := by decide +kernel
theorem d_M_makesAll_1 : decode me_M_makesAll.2.1 1 = .ok (.istore_n 1, 1) := by decide +kernel
theorem d_M_makesAll_2 : decode me_M_makesAll.2.1 2 = .ok (.iconst 0, 1) := by decide +kernel
theorem d_M_makesAll_3 : decode me_M_makesAll.2.1 3 = .ok (.istore_n 2, 1) := by decide +kernel
theorem d_M_makesAll_4 : decode me_M_makesAll.2.1 4 = .ok (.iload_n 2, 1) := by decide +kernel
theorem d_M_makesAll_5 : decode me_M_makesAll.2.1 5 = .ok (.aload_n 0, 1) := by decide +kernel
theorem d_M_makesAll_6 : decode me_M_makesAll.2.1 6 = .ok (.getfield 185, 3) := by decide +kernel
theorem d_M_makesAll_9 : decode me_M_makesAll.2.1 9 = .ok (.if_icmp .ge 20, 3) := by decide +kernel
theorem d_M_makesAll_12 : decode me_M_makesAll.2.1 12 = .ok (.iload_n 1, 1) := by decide +kernel
theorem d_M_makesAll_13 : decode me_M_makesAll.2.1 13 = .ok (.iconst 1, 1) := by decide +kernel
theorem d_M_makesAll_14 : decode me_M_makesAll.2.1 14 = .ok (.aload_n 0, 1) := by decide +kernel
theorem d_M_makesAll_15 : decode me_M_makesAll.2.1 15 = .ok (.getfield 13, 3) := by decide +kernel
theorem d_M_makesAll_18 : decode me_M_makesAll.2.1 18 = .ok (.iload_n 2, 1) := by decide +kernel
theorem d_M_makesAll_19 : decode me_M_makesAll.2.1 19 = .ok (.iaload, 1) := by decide +kernel
theorem d_M_makesAll_20 : decode me_M_makesAll.2.1 20 = .ok (.ishl, 1) := by decide +kernel
theorem d_M_makesAll_21 : decode me_M_makesAll.2.1 21 = .ok (.ior, 1) := by decide +kernel
theorem d_M_makesAll_22 : decode me_M_makesAll.2.1 22 = .ok (.istore_n 1, 1) := by decide +kernel
theorem d_M_makesAll_23 : decode me_M_makesAll.2.1 23 = .ok (.iinc 2 1, 3) := by decide +kernel
theorem d_M_makesAll_26 : decode me_M_makesAll.2.1 26 = .ok (.goto (-22), 3) := by decide +kernel
theorem d_M_makesAll_29 : decode me_M_makesAll.2.1 29 = .ok (.iload_n 1, 1) := by decide +kernel
theorem d_M_makesAll_30 : decode me_M_makesAll.2.1 30 = .ok (.iconst 1, 1) := by decide +kernel
theorem d_M_makesAll_31 : decode me_M_makesAll.2.1 31 = .ok (.aload_n 0, 1) := by decide +kernel
theorem d_M_makesAll_32 : decode me_M_makesAll.2.1 32 = .ok (.getfield 179, 3) := by decide +kernel
theorem d_M_makesAll_35 : decode me_M_makesAll.2.1 35 = .ok (.ishl, 1) := by decide +kernel
theorem d_M_makesAll_36 : decode me_M_makesAll.2.1 36 = .ok (.iconst 1, 1) := by decide +kernel
theorem d_M_makesAll_37 : decode me_M_makesAll.2.1 37 = .ok (.isub, 1) := by decide +kernel
theorem d_M_makesAll_38 : decode me_M_makesAll.2.1 38 = .ok (.if_icmp .ne 7, 3) := by decide +kernel
theorem d_M_makesAll_41 : decode me_M_makesAll.2.1 41 = .ok (.iconst 1, 1) := by decide +kernel
theorem d_M_makesAll_42 : decode me_M_makesAll.2.1 42 = .ok (.goto 4, 3) := by decide +kernel
theorem d_M_makesAll_45 : decode me_M_makesAll.2.1 45 = .ok (.iconst 0, 1) := by decide +kernel
theorem d_M_makesAll_46 : decode me_M_makesAll.2.1 46 = .ok (.ireturn, 1) := by decide +kernel
abbrev G_M_makesAll_0 (l : Launch) (v : gs_V) (n : Nat) (post : Int32 → gs_S → Prop) (σ : gs_S) : Prop := gG l v lyM 33 me_M_makesAll n (qI v lyM 33 post) 0 [(0, .ref (v.2.2 0))] [] σ
abbrev G_M_makesAll_4 (l : Launch) (v : gs_V) (n : Nat) (post : Int32 → gs_S → Prop) (σ : gs_S) (x1 : Int32) (x2 : Int32) : Prop := gG l v lyM 33 me_M_makesAll n (qI v lyM 33 post) 4 [(0, .ref (v.2.2 0)), (1, .int x1), (2, .int x2)] [] σ
abbrev G_M_makesAll_46 (l : Launch) (v : gs_V) (n : Nat) (post : Int32 → gs_S → Prop) (σ : gs_S) (s0 : Int32) : Prop := gG l v lyM 33 me_M_makesAll n (qI v lyM 33 post) 46 [] [.int s0] σ
set_option maxRecDepth 20000 in
set_option maxHeartbeats 1000000 in
theorem T_M_makesAll_0 {l : Launch} {v : gs_V} {n : Nat} {post : Int32 → gs_S → Prop} {σ : gs_S} (h : G_M_makesAll_4 l v n post σ 0 0) : G_M_makesAll_0 l v n post σ := by
  refine g_iconst d_M_makesAll_0 (x := 0) (by decide) ?_
  refine g_istore_n (L' := [(1, .int 0), (0, .ref (v.2.2 0))]) d_M_makesAll_1 rfl (by decide) rfl ?_
  refine g_iconst d_M_makesAll_2 (x := 0) (by decide) ?_
  refine g_istore_n (L' := [(2, .int 0), (1, .int 0), (0, .ref (v.2.2 0))]) d_M_makesAll_3 rfl (by decide) rfl ?_
  exact g_sub [2, 1, 0] rfl h
set_option maxRecDepth 20000 in
set_option maxHeartbeats 1000000 in
theorem T_M_makesAll_4 {l : Launch} {v : gs_V} {n : Nat} {post : Int32 → gs_S → Prop} {σ : gs_S} {x1 : Int32} {x2 : Int32} (h : (((σ.1 0 5) ≤ x2 → ((¬ x1 = ((jSI 1 (σ.1 0 2)) - 1) → G_M_makesAll_46 l v n post σ 0) ∧ (x1 = ((jSI 1 (σ.1 0 2)) - 1) → G_M_makesAll_46 l v n post σ 1))) ∧ (¬ (σ.1 0 5) ≤ x2 → vp_in x2 256 ∧ G_M_makesAll_4 l v n post σ (x1 ||| (jSI 1 (σ.1 2 x2.toNatClampNeg))) (x2 + 1)))) : G_M_makesAll_4 l v n post σ x1 x2 := by
  refine g_iload_n d_M_makesAll_4 2 rfl rfl ?_
  refine g_aload_n d_M_makesAll_5 0 rfl rfl ?_
  refine g_getV (x := .int (σ.1 0 5)) d_M_makesAll_6 fl_M_185 (by decide) rfl rfl rfl ?_
  refine g_icmp_ge (tgt := 29) d_M_makesAll_9 rfl (fun hc => ?_) (fun hc => ?_)
  · have h := h.1 hc
    refine g_iload_n d_M_makesAll_29 1 rfl rfl ?_
    refine g_iconst d_M_makesAll_30 (x := 1) (by decide) ?_
    refine g_aload_n d_M_makesAll_31 0 rfl rfl ?_
    refine g_getV (x := .int (σ.1 0 2)) d_M_makesAll_32 fl_M_179 (by decide) rfl rfl rfl ?_
    refine g_ishl d_M_makesAll_35 ?_
    refine g_iconst d_M_makesAll_36 (x := 1) (by decide) ?_
    refine g_isub d_M_makesAll_37 ?_
    refine g_icmp_ne (tgt := 45) d_M_makesAll_38 rfl (fun hc => ?_) (fun hc => ?_)
    · have h := h.1 hc
      refine g_iconst d_M_makesAll_45 (x := 0) (by decide) ?_
      exact g_sub [] rfl h
    · have h := h.2 hc
      refine g_iconst d_M_makesAll_41 (x := 1) (by decide) ?_
      refine g_goto (tgt := 46) d_M_makesAll_42 rfl ?_
      exact g_sub [] rfl h
  · have h := h.2 hc
    refine g_iload_n d_M_makesAll_12 1 rfl rfl ?_
    refine g_iconst d_M_makesAll_13 (x := 1) (by decide) ?_
    refine g_aload_n d_M_makesAll_14 0 rfl rfl ?_
    refine g_getV (x := .ref (v.2.2 2)) d_M_makesAll_15 fl_M_13 (by decide) rfl rfl rfl ?_
    refine g_iload_n d_M_makesAll_18 2 rfl rfl ?_
    have hi1 := h.1
    have h := h.2
    refine g_iald (x := σ.1 2 x2.toNatClampNeg) d_M_makesAll_19 (by decide) rfl hi1 rfl ?_
    refine g_ishl d_M_makesAll_20 ?_
    refine g_ior d_M_makesAll_21 ?_
    refine g_istore_n (L' := [(1, .int (x1 ||| (jSI 1 (σ.1 2 x2.toNatClampNeg)))), (0, .ref (v.2.2 0)), (2, .int x2)]) d_M_makesAll_22 rfl (by decide) rfl ?_
    refine g_iinc (L' := [(2, .int (x2 + 1)), (1, .int (x1 ||| (jSI 1 (σ.1 2 x2.toNatClampNeg)))), (0, .ref (v.2.2 0))]) d_M_makesAll_23 2 rfl (by rfl) (by decide) rfl ?_
    refine g_goto (tgt := 4) d_M_makesAll_26 rfl ?_
    exact g_sub [2, 1, 0] rfl h
set_option maxRecDepth 20000 in
set_option maxHeartbeats 1000000 in
theorem T_M_makesAll_46 {l : Launch} {v : gs_V} {n : Nat} {post : Int32 → gs_S → Prop} {σ : gs_S} {s0 : Int32} (h : narrow .boolean (.int s0) = .int s0 ∧ post s0 σ) : G_M_makesAll_46 l v n post σ s0 := by
  exact g_zret d_M_makesAll_46 rfl h.1 h.2
theorem E_M_makesAll {l : Launch} {v : gs_V} {n : Nat} {post : Int32 → gs_S → Prop} {σ : gs_S} (h : G_M_makesAll_0 l v n post σ) : gM l v lyM 33 me_M_makesAll (n + 1) [.ref (v.2.2 0)] σ (qI v lyM 33 post) := gM_of (by decide +kernel) (Nat.le_of_ble_eq_true rfl) h
/-! LineRulesModel.next -/
theorem d_M_next_0 : decode me_M_next.2.1 0 = .ok (.aload_n 0, 1) := by decide +kernel
theorem d_M_next_1 : decode me_M_next.2.1 1 = .ok (.getfield 179, 3) := by decide +kernel
theorem d_M_next_4 : decode me_M_next.2.1 4 = .ok (.ifCond .le 24, 3) := by decide +kernel
theorem d_M_next_7 : decode me_M_next.2.1 7 = .ok (.iload_n 1, 1) := by decide +kernel
theorem d_M_next_8 : decode me_M_next.2.1 8 = .ok (.ifCond .lt 20, 3) := by decide +kernel
theorem d_M_next_11 : decode me_M_next.2.1 11 = .ok (.iload_n 1, 1) := by decide +kernel
theorem d_M_next_12 : decode me_M_next.2.1 12 = .ok (.aload_n 0, 1) := by decide +kernel
theorem d_M_next_13 : decode me_M_next.2.1 13 = .ok (.getfield 185, 3) := by decide +kernel
theorem d_M_next_16 : decode me_M_next.2.1 16 = .ok (.if_icmp .ge 12, 3) := by decide +kernel
theorem d_M_next_19 : decode me_M_next.2.1 19 = .ok (.aload_n 0, 1) := by decide +kernel
theorem d_M_next_20 : decode me_M_next.2.1 20 = .ok (.getfield 13, 3) := by decide +kernel
theorem d_M_next_23 : decode me_M_next.2.1 23 = .ok (.iload_n 1, 1) := by decide +kernel
theorem d_M_next_24 : decode me_M_next.2.1 24 = .ok (.iaload, 1) := by decide +kernel
theorem d_M_next_25 : decode me_M_next.2.1 25 = .ok (.goto 4, 3) := by decide +kernel
theorem d_M_next_28 : decode me_M_next.2.1 28 = .ok (.iconst (-1), 1) := by decide +kernel
theorem d_M_next_29 : decode me_M_next.2.1 29 = .ok (.ireturn, 1) := by decide +kernel
abbrev G_M_next_0 (l : Launch) (v : gs_V) (n : Nat) (post : Int32 → gs_S → Prop) (σ : gs_S) (x1 : Int32) : Prop := gG l v lyM 33 me_M_next n (qI v lyM 33 post) 0 [(0, .ref (v.2.2 0)), (1, .int x1)] [] σ
abbrev G_M_next_28 (l : Launch) (v : gs_V) (n : Nat) (post : Int32 → gs_S → Prop) (σ : gs_S) : Prop := gG l v lyM 33 me_M_next n (qI v lyM 33 post) 28 [] [] σ
abbrev G_M_next_29 (l : Launch) (v : gs_V) (n : Nat) (post : Int32 → gs_S → Prop) (σ : gs_S) (s0 : Int32) : Prop := gG l v lyM 33 me_M_next n (qI v lyM 33 post) 29 [] [.int s0] σ
set_option maxRecDepth 20000 in
set_option maxHeartbeats 1000000 in
theorem T_M_next_0 {l : Launch} {v : gs_V} {n : Nat} {post : Int32 → gs_S → Prop} {σ : gs_S} {x1 : Int32} (h : (((σ.1 0 2) ≤ 0 → G_M_next_28 l v n post σ) ∧ (¬ (σ.1 0 2) ≤ 0 → ((x1 < 0 → G_M_next_28 l v n post σ) ∧ (¬ x1 < 0 → (((σ.1 0 5) ≤ x1 → G_M_next_28 l v n post σ) ∧ (¬ (σ.1 0 5) ≤ x1 → vp_in x1 256 ∧ G_M_next_29 l v n post σ (σ.1 2 x1.toNatClampNeg)))))))) : G_M_next_0 l v n post σ x1 := by
  refine g_aload_n d_M_next_0 0 rfl rfl ?_
  refine g_getV (x := .int (σ.1 0 2)) d_M_next_1 fl_M_179 (by decide) rfl rfl rfl ?_
  refine g_if_le (tgt := 28) d_M_next_4 rfl (fun hc => ?_) (fun hc => ?_)
  · have h := h.1 hc
    exact g_sub [] rfl h
  · have h := h.2 hc
    refine g_iload_n d_M_next_7 1 rfl rfl ?_
    refine g_if_lt (tgt := 28) d_M_next_8 rfl (fun hc => ?_) (fun hc => ?_)
    · have h := h.1 hc
      exact g_sub [] rfl h
    · have h := h.2 hc
      refine g_iload_n d_M_next_11 1 rfl rfl ?_
      refine g_aload_n d_M_next_12 0 rfl rfl ?_
      refine g_getV (x := .int (σ.1 0 5)) d_M_next_13 fl_M_185 (by decide) rfl rfl rfl ?_
      refine g_icmp_ge (tgt := 28) d_M_next_16 rfl (fun hc => ?_) (fun hc => ?_)
      · have h := h.1 hc
        exact g_sub [] rfl h
      · have h := h.2 hc
        refine g_aload_n d_M_next_19 0 rfl rfl ?_
        refine g_getV (x := .ref (v.2.2 2)) d_M_next_20 fl_M_13 (by decide) rfl rfl rfl ?_
        refine g_iload_n d_M_next_23 1 rfl rfl ?_
        have hi1 := h.1
        have h := h.2
        refine g_iald (x := σ.1 2 x1.toNatClampNeg) d_M_next_24 (by decide) rfl hi1 rfl ?_
        refine g_goto (tgt := 29) d_M_next_25 rfl ?_
        exact g_sub [] rfl h
set_option maxRecDepth 20000 in
set_option maxHeartbeats 1000000 in
theorem T_M_next_28 {l : Launch} {v : gs_V} {n : Nat} {post : Int32 → gs_S → Prop} {σ : gs_S} (h : G_M_next_29 l v n post σ ((-1))) : G_M_next_28 l v n post σ := by
  refine g_iconst d_M_next_28 (x := (-1)) (by decide) ?_
  exact h
set_option maxRecDepth 20000 in
set_option maxHeartbeats 1000000 in
theorem T_M_next_29 {l : Launch} {v : gs_V} {n : Nat} {post : Int32 → gs_S → Prop} {σ : gs_S} {s0 : Int32} (h : post s0 σ) : G_M_next_29 l v n post σ s0 := by
  exact g_iret d_M_next_29 rfl h
theorem E_M_next {l : Launch} {v : gs_V} {n : Nat} {post : Int32 → gs_S → Prop} {σ : gs_S} {x1 : Int32} (h : G_M_next_0 l v n post σ x1) : gM l v lyM 33 me_M_next (n + 1) [.ref (v.2.2 0), .int x1] σ (qI v lyM 33 post) := gM_of (by decide +kernel) (Nat.le_of_ble_eq_true rfl) h
/-! LineRulesModel.open -/
theorem d_M_open_0 : decode me_M_open.2.1 0 = .ok (.aload_n 0, 1) := by decide +kernel
theorem d_M_open_1 : decode me_M_open.2.1 1 = .ok (.dup, 1) := by decide +kernel
theorem d_M_open_2 : decode me_M_open.2.1 2 = .ok (.getfield 115, 3) := by decide +kernel
theorem d_M_open_5 : decode me_M_open.2.1 5 = .ok (.iconst 1, 1) := by decide +kernel
theorem d_M_open_6 : decode me_M_open.2.1 6 = .ok (.iadd, 1) := by decide +kernel
theorem d_M_open_7 : decode me_M_open.2.1 7 = .ok (.putfield 115, 3) := by decide +kernel
theorem d_M_open_10 : decode me_M_open.2.1 10 = .ok (.aload_n 0, 1) := by decide +kernel
theorem d_M_open_11 : decode me_M_open.2.1 11 = .ok (.getfield 26, 3) := by decide +kernel
theorem d_M_open_14 : decode me_M_open.2.1 14 = .ok (.aload_n 0, 1) := by decide +kernel
theorem d_M_open_15 : decode me_M_open.2.1 15 = .ok (.getfield 115, 3) := by decide +kernel
theorem d_M_open_18 : decode me_M_open.2.1 18 = .ok (.iload_n 1, 1) := by decide +kernel
theorem d_M_open_19 : decode me_M_open.2.1 19 = .ok (.iastore, 1) := by decide +kernel
theorem d_M_open_20 : decode me_M_open.2.1 20 = .ok (.aload_n 0, 1) := by decide +kernel
theorem d_M_open_21 : decode me_M_open.2.1 21 = .ok (.getfield 29, 3) := by decide +kernel
theorem d_M_open_24 : decode me_M_open.2.1 24 = .ok (.aload_n 0, 1) := by decide +kernel
theorem d_M_open_25 : decode me_M_open.2.1 25 = .ok (.getfield 115, 3) := by decide +kernel
theorem d_M_open_28 : decode me_M_open.2.1 28 = .ok (.iload_n 2, 1) := by decide +kernel
theorem d_M_open_29 : decode me_M_open.2.1 29 = .ok (.iastore, 1) := by decide +kernel
theorem d_M_open_30 : decode me_M_open.2.1 30 = .ok (.aload_n 0, 1) := by decide +kernel
theorem d_M_open_31 : decode me_M_open.2.1 31 = .ok (.aload_n 0, 1) := by decide +kernel
theorem d_M_open_32 : decode me_M_open.2.1 32 = .ok (.getfield 115, 3) := by decide +kernel
theorem d_M_open_35 : decode me_M_open.2.1 35 = .ok (.invokevirtual 118, 3) := by decide +kernel
theorem d_M_open_38 : decode me_M_open.2.1 38 = .ok (.return_, 1) := by decide +kernel
abbrev G_M_open_0 (l : Launch) (v : gs_V) (n : Nat) (post : gs_S → Prop) (σ : gs_S) (x1 : Int32) (x2 : Int32) : Prop := gG l v lyM 33 me_M_open n (qV v lyM 33 post) 0 [(0, .ref (v.2.2 0)), (1, .int x1), (2, .int x2)] [] σ
set_option maxRecDepth 20000 in
set_option maxHeartbeats 1000000 in
theorem T_M_open_0 {l : Launch} {v : gs_V} {n : Nat} {post : gs_S → Prop} {σ : gs_S} {x1 : Int32} {x2 : Int32} (h : vp_in ((σ.1 0 13) + 1) 6 ∧ vp_in ((σ.1 0 13) + 1) 6 ∧ gM l v lyM 33 me_M_fresh n [.ref (v.2.2 0), .int ((σ.1 0 13) + 1)] (gs_pI (gs_pI (gs_pI σ 0 13 ((σ.1 0 13) + 1)) 5 (((σ.1 0 13) + 1).toNatClampNeg) x1) 6 (((σ.1 0 13) + 1).toNatClampNeg) x2) (qV v lyM 33 (fun σ3 => post σ3))) : G_M_open_0 l v n post σ x1 x2 := by
  refine g_aload_n d_M_open_0 0 rfl rfl ?_
  refine g_dup d_M_open_1 rfl ?_
  refine g_getV (x := .int (σ.1 0 13)) d_M_open_2 fl_M_115 (by decide) rfl rfl rfl ?_
  refine g_iconst d_M_open_5 (x := 1) (by decide) ?_
  refine g_iadd d_M_open_6 ?_
  refine g_putI d_M_open_7 fp_M_115 (by decide) rfl rfl ⟨rfl, rfl⟩ ?_
  refine g_aload_n d_M_open_10 0 rfl rfl ?_
  refine g_getV (x := .ref (v.2.2 5)) d_M_open_11 fl_M_26 (by decide) rfl rfl rfl ?_
  refine g_aload_n d_M_open_14 0 rfl rfl ?_
  refine g_getV (x := .int ((σ.1 0 13) + 1)) d_M_open_15 fl_M_115 (by decide) rfl rfl rfl ?_
  refine g_iload_n d_M_open_18 1 rfl rfl ?_
  have hi1 := h.1
  have h := h.2
  refine g_iast d_M_open_19 (by decide) rfl hi1 ?_
  refine g_aload_n d_M_open_20 0 rfl rfl ?_
  refine g_getV (x := .ref (v.2.2 6)) d_M_open_21 fl_M_29 (by decide) rfl rfl rfl ?_
  refine g_aload_n d_M_open_24 0 rfl rfl ?_
  refine g_getV (x := .int ((σ.1 0 13) + 1)) d_M_open_25 fl_M_115 (by decide) rfl rfl rfl ?_
  refine g_iload_n d_M_open_28 2 rfl rfl ?_
  have hi2 := h.1
  have h := h.2
  refine g_iast d_M_open_29 (by decide) rfl hi2 ?_
  refine g_aload_n d_M_open_30 0 rfl rfl ?_
  refine g_aload_n d_M_open_31 0 rfl rfl ?_
  refine g_getV (x := .int ((σ.1 0 13) + 1)) d_M_open_32 fl_M_115 (by decide) rfl rfl rfl ?_
  refine g_callVv (av := [.int ((σ.1 0 13) + 1)]) (rest := []) d_M_open_35 Y_M_fresh lk_M_118 (by decide) rfl rfl I_M_fresh rfl (Nat.le_of_ble_eq_true rfl) rfl h (fun σ3 h => ?_)
  exact g_vret d_M_open_38 rfl h
theorem E_M_open {l : Launch} {v : gs_V} {n : Nat} {post : gs_S → Prop} {σ : gs_S} {x1 : Int32} {x2 : Int32} (h : G_M_open_0 l v n post σ x1 x2) : gM l v lyM 33 me_M_open (n + 1) [.ref (v.2.2 0), .int x1, .int x2] σ (qV v lyM 33 post) := gM_of (by decide +kernel) (Nat.le_of_ble_eq_true rfl) h
/-! LineRulesModel.operand -/
theorem d_M_operand_0 : decode me_M_operand.2.1 0 = .ok (.aload_n 0, 1) := by decide +kernel
theorem d_M_operand_1 : decode me_M_operand.2.1 1 = .ok (.getfield 35, 3) := by decide +kernel
theorem d_M_operand_4 : decode me_M_operand.2.1 4 = .ok (.aload_n 0, 1) := by decide +kernel
theorem d_M_operand_5 : decode me_M_operand.2.1 5 = .ok (.getfield 115, 3) := by decide +kernel
theorem d_M_operand_8 : decode me_M_operand.2.1 8 = .ok (.iaload, 1) := by decide +kernel
theorem d_M_operand_9 : decode me_M_operand.2.1 9 = .ok (.iconst 2, 1) := by decide +kernel
theorem d_M_operand_10 : decode me_M_operand.2.1 10 = .ok (.irem, 1) := by decide +kernel
theorem d_M_operand_11 : decode me_M_operand.2.1 11 = .ok (.iconst 1, 1) := by decide +kernel
theorem d_M_operand_12 : decode me_M_operand.2.1 12 = .ok (.if_icmp .ne 14, 3) := by decide +kernel
theorem d_M_operand_15 : decode me_M_operand.2.1 15 = .ok (.aload_n 0, 1) := by decide +kernel
theorem d_M_operand_16 : decode me_M_operand.2.1 16 = .ok (.getfield 122, 3) := by decide +kernel
theorem d_M_operand_19 : decode me_M_operand.2.1 19 = .ok (.iconst 1, 1) := by decide +kernel
theorem d_M_operand_20 : decode me_M_operand.2.1 20 = .ok (.isub, 1) := by decide +kernel
theorem d_M_operand_21 : decode me_M_operand.2.1 21 = .ok (.iload_n 1, 1) := by decide +kernel
theorem d_M_operand_22 : decode me_M_operand.2.1 22 = .ok (.isub, 1) := by decide +kernel
theorem d_M_operand_23 : decode me_M_operand.2.1 23 = .ok (.goto 4, 3) := by decide +kernel
theorem d_M_operand_26 : decode me_M_operand.2.1 26 = .ok (.iload_n 1, 1) := by decide +kernel
theorem d_M_operand_27 : decode me_M_operand.2.1 27 = .ok (.istore_n 2, 1) := by decide +kernel
theorem d_M_operand_28 : decode me_M_operand.2.1 28 = .ok (.aload_n 0, 1) := by decide +kernel
theorem d_M_operand_29 : decode me_M_operand.2.1 29 = .ok (.getfield 35, 3) := by decide +kernel
theorem d_M_operand_32 : decode me_M_operand.2.1 32 = .ok (.aload_n 0, 1) := by decide +kernel
theorem d_M_operand_33 : decode me_M_operand.2.1 33 = .ok (.getfield 115, 3) := by decide +kernel
theorem d_M_operand_36 : decode me_M_operand.2.1 36 = .ok (.iconst 0, 1) := by decide +kernel
theorem d_M_operand_37 : decode me_M_operand.2.1 37 = .ok (.iastore, 1) := by decide +kernel
theorem d_M_operand_38 : decode me_M_operand.2.1 38 = .ok (.aload_n 0, 1) := by decide +kernel
theorem d_M_operand_39 : decode me_M_operand.2.1 39 = .ok (.getfield 38, 3) := by decide +kernel
theorem d_M_operand_42 : decode me_M_operand.2.1 42 = .ok (.aload_n 0, 1) := by decide +kernel
theorem d_M_operand_43 : decode me_M_operand.2.1 43 = .ok (.getfield 115, 3) := by decide +kernel
theorem d_M_operand_46 : decode me_M_operand.2.1 46 = .ok (.aload_n 0, 1) := by decide +kernel
theorem d_M_operand_47 : decode me_M_operand.2.1 47 = .ok (.getfield 41, 3) := by decide +kernel
theorem d_M_operand_50 : decode me_M_operand.2.1 50 = .ok (.aload_n 0, 1) := by decide +kernel
theorem d_M_operand_51 : decode me_M_operand.2.1 51 = .ok (.getfield 115, 3) := by decide +kernel
theorem d_M_operand_54 : decode me_M_operand.2.1 54 = .ok (.baload, 1) := by decide +kernel
theorem d_M_operand_55 : decode me_M_operand.2.1 55 = .ok (.ifCond .eq 22, 3) := by decide +kernel
theorem d_M_operand_58 : decode me_M_operand.2.1 58 = .ok (.aload_n 0, 1) := by decide +kernel
theorem d_M_operand_59 : decode me_M_operand.2.1 59 = .ok (.getfield 38, 3) := by decide +kernel
theorem d_M_operand_62 : decode me_M_operand.2.1 62 = .ok (.aload_n 0, 1) := by decide +kernel
theorem d_M_operand_63 : decode me_M_operand.2.1 63 = .ok (.getfield 115, 3) := by decide +kernel
theorem d_M_operand_66 : decode me_M_operand.2.1 66 = .ok (.iaload, 1) := by decide +kernel
theorem d_M_operand_67 : decode me_M_operand.2.1 67 = .ok (.iload_n 2, 1) := by decide +kernel
theorem d_M_operand_68 : decode me_M_operand.2.1 68 = .ok (.imul, 1) := by decide +kernel
theorem d_M_operand_69 : decode me_M_operand.2.1 69 = .ok (.aload_n 0, 1) := by decide +kernel
theorem d_M_operand_70 : decode me_M_operand.2.1 70 = .ok (.getfield 122, 3) := by decide +kernel
theorem d_M_operand_73 : decode me_M_operand.2.1 73 = .ok (.irem, 1) := by decide +kernel
theorem d_M_operand_74 : decode me_M_operand.2.1 74 = .ok (.goto 4, 3) := by decide +kernel
theorem d_M_operand_77 : decode me_M_operand.2.1 77 = .ok (.iload_n 2, 1) := by decide +kernel
theorem d_M_operand_78 : decode me_M_operand.2.1 78 = .ok (.iastore, 1) := by decide +kernel
theorem d_M_operand_79 : decode me_M_operand.2.1 79 = .ok (.aload_n 0, 1) := by decide +kernel
theorem d_M_operand_80 : decode me_M_operand.2.1 80 = .ok (.getfield 41, 3) := by decide +kernel
theorem d_M_operand_83 : decode me_M_operand.2.1 83 = .ok (.aload_n 0, 1) := by decide +kernel
theorem d_M_operand_84 : decode me_M_operand.2.1 84 = .ok (.getfield 115, 3) := by decide +kernel
theorem d_M_operand_87 : decode me_M_operand.2.1 87 = .ok (.iconst 1, 1) := by decide +kernel
theorem d_M_operand_88 : decode me_M_operand.2.1 88 = .ok (.bastore, 1) := by decide +kernel
theorem d_M_operand_89 : decode me_M_operand.2.1 89 = .ok (.return_, 1) := by decide +kernel
abbrev G_M_operand_0 (l : Launch) (v : gs_V) (n : Nat) (post : gs_S → Prop) (σ : gs_S) (x1 : Int32) : Prop := gG l v lyM 33 me_M_operand n (qV v lyM 33 post) 0 [(0, .ref (v.2.2 0)), (1, .int x1)] [] σ
abbrev G_M_operand_27 (l : Launch) (v : gs_V) (n : Nat) (post : gs_S → Prop) (σ : gs_S) (s0 : Int32) : Prop := gG l v lyM 33 me_M_operand n (qV v lyM 33 post) 27 [(0, .ref (v.2.2 0))] [.int s0] σ
abbrev G_M_operand_78 (l : Launch) (v : gs_V) (n : Nat) (post : gs_S → Prop) (σ : gs_S) (s0 : Int32) (s1 : Int32) : Prop := gG l v lyM 33 me_M_operand n (qV v lyM 33 post) 78 [(0, .ref (v.2.2 0))] [.int s0, .int s1, .ref (v.2.2 9)] σ
set_option maxRecDepth 20000 in
set_option maxHeartbeats 1000000 in
theorem T_M_operand_0 {l : Launch} {v : gs_V} {n : Nat} {post : gs_S → Prop} {σ : gs_S} {x1 : Int32} (h : vp_in (σ.1 0 13) 6 ∧ ((¬ (jR (σ.1 8 ((σ.1 0 13).toNatClampNeg)) 2) = 1 → G_M_operand_27 l v n post σ x1) ∧ ((jR (σ.1 8 ((σ.1 0 13).toNatClampNeg)) 2) = 1 → G_M_operand_27 l v n post σ (((σ.1 0 10) - 1) - x1)))) : G_M_operand_0 l v n post σ x1 := by
  refine g_aload_n d_M_operand_0 0 rfl rfl ?_
  refine g_getV (x := .ref (v.2.2 8)) d_M_operand_1 fl_M_35 (by decide) rfl rfl rfl ?_
  refine g_aload_n d_M_operand_4 0 rfl rfl ?_
  refine g_getV (x := .int (σ.1 0 13)) d_M_operand_5 fl_M_115 (by decide) rfl rfl rfl ?_
  have hi1 := h.1
  have h := h.2
  refine g_iald (x := σ.1 8 ((σ.1 0 13).toNatClampNeg)) d_M_operand_8 (by decide) rfl hi1 rfl ?_
  refine g_iconst d_M_operand_9 (x := 2) (by decide) ?_
  refine g_irem d_M_operand_10 (by decide) ?_
  refine g_iconst d_M_operand_11 (x := 1) (by decide) ?_
  refine g_icmp_ne (tgt := 26) d_M_operand_12 rfl (fun hc => ?_) (fun hc => ?_)
  · have h := h.1 hc
    refine g_iload_n d_M_operand_26 1 rfl rfl ?_
    exact g_sub [0] rfl h
  · have h := h.2 hc
    refine g_aload_n d_M_operand_15 0 rfl rfl ?_
    refine g_getV (x := .int (σ.1 0 10)) d_M_operand_16 fl_M_122 (by decide) rfl rfl rfl ?_
    refine g_iconst d_M_operand_19 (x := 1) (by decide) ?_
    refine g_isub d_M_operand_20 ?_
    refine g_iload_n d_M_operand_21 1 rfl rfl ?_
    refine g_isub d_M_operand_22 ?_
    refine g_goto (tgt := 27) d_M_operand_23 rfl ?_
    exact g_sub [0] rfl h
set_option maxRecDepth 20000 in
set_option maxHeartbeats 1000000 in
theorem T_M_operand_27 {l : Launch} {v : gs_V} {n : Nat} {post : gs_S → Prop} {σ : gs_S} {s0 : Int32} (h : vp_in (σ.1 0 13) 6 ∧ vp_in (σ.1 0 13) 6 ∧ (((σ.1 10 ((σ.1 0 13).toNatClampNeg)) = 0 → G_M_operand_78 l v n post (gs_pI σ 8 ((σ.1 0 13).toNatClampNeg) 0) s0 (σ.1 0 13)) ∧ (¬ (σ.1 10 ((σ.1 0 13).toNatClampNeg)) = 0 → vp_in (σ.1 0 13) 6 ∧ ¬ (σ.1 0 10) = 0 ∧ G_M_operand_78 l v n post (gs_pI σ 8 ((σ.1 0 13).toNatClampNeg) 0) (jR ((σ.1 9 ((σ.1 0 13).toNatClampNeg)) * s0) (σ.1 0 10)) (σ.1 0 13)))) : G_M_operand_27 l v n post σ s0 := by
  refine g_istore_n (L' := [(2, .int s0), (0, .ref (v.2.2 0))]) d_M_operand_27 rfl (by decide) rfl ?_
  refine g_aload_n d_M_operand_28 1 rfl rfl ?_
  refine g_getV (x := .ref (v.2.2 8)) d_M_operand_29 fl_M_35 (by decide) rfl rfl rfl ?_
  refine g_aload_n d_M_operand_32 1 rfl rfl ?_
  refine g_getV (x := .int (σ.1 0 13)) d_M_operand_33 fl_M_115 (by decide) rfl rfl rfl ?_
  refine g_iconst d_M_operand_36 (x := 0) (by decide) ?_
  have hi1 := h.1
  have h := h.2
  refine g_iast d_M_operand_37 (by decide) rfl hi1 ?_
  refine g_aload_n d_M_operand_38 1 rfl rfl ?_
  refine g_getV (x := .ref (v.2.2 9)) d_M_operand_39 fl_M_38 (by decide) rfl rfl rfl ?_
  refine g_aload_n d_M_operand_42 1 rfl rfl ?_
  refine g_getV (x := .int (σ.1 0 13)) d_M_operand_43 fl_M_115 (by decide) rfl rfl rfl ?_
  refine g_aload_n d_M_operand_46 1 rfl rfl ?_
  refine g_getV (x := .ref (v.2.2 10)) d_M_operand_47 fl_M_41 (by decide) rfl rfl rfl ?_
  refine g_aload_n d_M_operand_50 1 rfl rfl ?_
  refine g_getV (x := .int (σ.1 0 13)) d_M_operand_51 fl_M_115 (by decide) rfl rfl rfl ?_
  have hi2 := h.1
  have h := h.2
  refine g_zald (x := σ.1 10 ((σ.1 0 13).toNatClampNeg)) d_M_operand_54 (by decide) rfl hi2 rfl ?_
  refine g_if_eq (tgt := 77) d_M_operand_55 rfl (fun hc => ?_) (fun hc => ?_)
  · have h := h.1 hc
    refine g_iload_n d_M_operand_77 0 rfl rfl ?_
    exact g_sub [1] rfl h
  · have h := h.2 hc
    refine g_aload_n d_M_operand_58 1 rfl rfl ?_
    refine g_getV (x := .ref (v.2.2 9)) d_M_operand_59 fl_M_38 (by decide) rfl rfl rfl ?_
    refine g_aload_n d_M_operand_62 1 rfl rfl ?_
    refine g_getV (x := .int (σ.1 0 13)) d_M_operand_63 fl_M_115 (by decide) rfl rfl rfl ?_
    have hi3 := h.1
    have h := h.2
    refine g_iald (x := σ.1 9 ((σ.1 0 13).toNatClampNeg)) d_M_operand_66 (by decide) rfl hi3 rfl ?_
    refine g_iload_n d_M_operand_67 0 rfl rfl ?_
    refine g_imul d_M_operand_68 ?_
    refine g_aload_n d_M_operand_69 1 rfl rfl ?_
    refine g_getV (x := .int (σ.1 0 10)) d_M_operand_70 fl_M_122 (by decide) rfl rfl rfl ?_
    refine g_irem d_M_operand_73 h.1 ?_
    have h := h.2
    refine g_goto (tgt := 78) d_M_operand_74 rfl ?_
    exact g_sub [1] rfl h
set_option maxRecDepth 20000 in
set_option maxHeartbeats 1000000 in
theorem T_M_operand_78 {l : Launch} {v : gs_V} {n : Nat} {post : gs_S → Prop} {σ : gs_S} {s0 : Int32} {s1 : Int32} (h : vp_in s1 6 ∧ vp_in (σ.1 0 13) 6 ∧ post (gs_pI (gs_pI σ 9 s1.toNatClampNeg s0) 10 ((σ.1 0 13).toNatClampNeg) 1)) : G_M_operand_78 l v n post σ s0 s1 := by
  have hi1 := h.1
  have h := h.2
  refine g_iast d_M_operand_78 (by decide) rfl hi1 ?_
  refine g_aload_n d_M_operand_79 0 rfl rfl ?_
  refine g_getV (x := .ref (v.2.2 10)) d_M_operand_80 fl_M_41 (by decide) rfl rfl rfl ?_
  refine g_aload_n d_M_operand_83 0 rfl rfl ?_
  refine g_getV (x := .int (σ.1 0 13)) d_M_operand_84 fl_M_115 (by decide) rfl rfl rfl ?_
  refine g_iconst d_M_operand_87 (x := 1) (by decide) ?_
  have hi2 := h.1
  have h := h.2
  refine g_zast d_M_operand_88 (by decide) rfl hi2 ?_
  exact g_vret d_M_operand_89 rfl h
theorem E_M_operand {l : Launch} {v : gs_V} {n : Nat} {post : gs_S → Prop} {σ : gs_S} {x1 : Int32} (h : G_M_operand_0 l v n post σ x1) : gM l v lyM 33 me_M_operand (n + 1) [.ref (v.2.2 0), .int x1] σ (qV v lyM 33 post) := gM_of (by decide +kernel) (Nat.le_of_ble_eq_true rfl) h
/-! LineRulesModel.orphan -/
theorem d_M_orphan_0 : decode me_M_orphan.2.1 0 = .ok (.aload_n 0, 1) := by decide +kernel
theorem d_M_orphan_1 : decode me_M_orphan.2.1 1 = .ok (.getfield 179, 3) := by decide +kernel
theorem d_M_orphan_4 : decode me_M_orphan.2.1 4 = .ok (.ifCond .ne 5, 3) := by decide +kernel
theorem d_M_orphan_7 : decode me_M_orphan.2.1 7 = .ok (.iconst (-1), 1) := by decide +kernel
theorem d_M_orphan_8 : decode me_M_orphan.2.1 8 = .ok (.ireturn, 1) := by decide +kernel
theorem d_M_orphan_9 : decode me_M_orphan.2.1 9 = .ok (.aload_n 0, 1) := by decide +kernel
theorem d_M_orphan_10 : decode me_M_orphan.2.1 10 = .ok (.invokevirtual 285, 3) := by decide +kernel
theorem d_M_orphan_13 : decode me_M_orphan.2.1 13 = .ok (.aload_n 0, 1) := by decide +kernel
theorem d_M_orphan_14 : decode me_M_orphan.2.1 14 = .ok (.getfield 270, 3) := by decide +kernel
theorem d_M_orphan_17 : decode me_M_orphan.2.1 17 = .ok (.ireturn, 1) := by decide +kernel
abbrev G_M_orphan_0 (l : Launch) (v : gs_V) (n : Nat) (post : Int32 → gs_S → Prop) (σ : gs_S) : Prop := gG l v lyM 33 me_M_orphan n (qI v lyM 33 post) 0 [(0, .ref (v.2.2 0))] [] σ
set_option maxRecDepth 20000 in
set_option maxHeartbeats 1000000 in
theorem T_M_orphan_0 {l : Launch} {v : gs_V} {n : Nat} {post : Int32 → gs_S → Prop} {σ : gs_S} (h : ((¬ (σ.1 0 2) = 0 → gM l v lyM 33 me_M_findOrphan n [.ref (v.2.2 0)] σ (qV v lyM 33 (fun σ1 => post (σ1.1 0 42) σ1))) ∧ ((σ.1 0 2) = 0 → post ((-1)) σ))) : G_M_orphan_0 l v n post σ := by
  refine g_aload_n d_M_orphan_0 0 rfl rfl ?_
  refine g_getV (x := .int (σ.1 0 2)) d_M_orphan_1 fl_M_179 (by decide) rfl rfl rfl ?_
  refine g_if_ne (tgt := 9) d_M_orphan_4 rfl (fun hc => ?_) (fun hc => ?_)
  · have h := h.1 hc
    refine g_aload_n d_M_orphan_9 0 rfl rfl ?_
    refine g_callVv (av := []) (rest := []) d_M_orphan_10 Y_M_findOrphan lk_M_285 (by decide) rfl rfl I_M_findOrphan rfl (Nat.le_of_ble_eq_true rfl) rfl h (fun σ1 h => ?_)
    refine g_aload_n d_M_orphan_13 0 rfl rfl ?_
    refine g_getV (x := .int (σ1.1 0 42)) d_M_orphan_14 fl_M_270 (by decide) rfl rfl rfl ?_
    exact g_iret d_M_orphan_17 rfl h
  · have h := h.2 hc
    refine g_iconst d_M_orphan_7 (x := (-1)) (by decide) ?_
    exact g_iret d_M_orphan_8 rfl h
theorem E_M_orphan {l : Launch} {v : gs_V} {n : Nat} {post : Int32 → gs_S → Prop} {σ : gs_S} (h : G_M_orphan_0 l v n post σ) : gM l v lyM 33 me_M_orphan (n + 1) [.ref (v.2.2 0)] σ (qI v lyM 33 post) := gM_of (by decide +kernel) (Nat.le_of_ble_eq_true rfl) h
/-! LineRulesModel.orphanAt -/
theorem d_M_orphanAt_0 : decode me_M_orphanAt.2.1 0 = .ok (.aload_n 0, 1) := by decide +kernel
theorem d_M_orphanAt_1 : decode me_M_orphanAt.2.1 1 = .ok (.getfield 179, 3) := by decide +kernel
theorem d_M_orphanAt_4 : decode me_M_orphanAt.2.1 4 = .ok (.ifCond .ne 5, 3) := by decide +kernel
theorem d_M_orphanAt_7 : decode me_M_orphanAt.2.1 7 = .ok (.iconst (-1), 1) := by decide +kernel
theorem d_M_orphanAt_8 : decode me_M_orphanAt.2.1 8 = .ok (.ireturn, 1) := by decide +kernel
theorem d_M_orphanAt_9 : decode me_M_orphanAt.2.1 9 = .ok (.aload_n 0, 1) := by decide +kernel
theorem d_M_orphanAt_10 : decode me_M_orphanAt.2.1 10 = .ok (.invokevirtual 285, 3) := by decide +kernel
theorem d_M_orphanAt_13 : decode me_M_orphanAt.2.1 13 = .ok (.iload_n 1, 1) := by decide +kernel
theorem d_M_orphanAt_14 : decode me_M_orphanAt.2.1 14 = .ok (.ifCond .lt 20, 3) := by decide +kernel
theorem d_M_orphanAt_17 : decode me_M_orphanAt.2.1 17 = .ok (.iload_n 1, 1) := by decide +kernel
theorem d_M_orphanAt_18 : decode me_M_orphanAt.2.1 18 = .ok (.aload_n 0, 1) := by decide +kernel
theorem d_M_orphanAt_19 : decode me_M_orphanAt.2.1 19 = .ok (.getfield 270, 3) := by decide +kernel
theorem d_M_orphanAt_22 : decode me_M_orphanAt.2.1 22 = .ok (.if_icmp .ge 12, 3) := by decide +kernel
theorem d_M_orphanAt_25 : decode me_M_orphanAt.2.1 25 = .ok (.aload_n 0, 1) := by decide +kernel
theorem d_M_orphanAt_26 : decode me_M_orphanAt.2.1 26 = .ok (.getfield 88, 3) := by decide +kernel
theorem d_M_orphanAt_29 : decode me_M_orphanAt.2.1 29 = .ok (.iload_n 1, 1) := by decide +kernel
theorem d_M_orphanAt_30 : decode me_M_orphanAt.2.1 30 = .ok (.iaload, 1) := by decide +kernel
theorem d_M_orphanAt_31 : decode me_M_orphanAt.2.1 31 = .ok (.goto 4, 3) := by decide +kernel
theorem d_M_orphanAt_34 : decode me_M_orphanAt.2.1 34 = .ok (.iconst (-1), 1) := by decide +kernel
theorem d_M_orphanAt_35 : decode me_M_orphanAt.2.1 35 = .ok (.ireturn, 1) := by decide +kernel
abbrev G_M_orphanAt_0 (l : Launch) (v : gs_V) (n : Nat) (post : Int32 → gs_S → Prop) (σ : gs_S) (x1 : Int32) : Prop := gG l v lyM 33 me_M_orphanAt n (qI v lyM 33 post) 0 [(0, .ref (v.2.2 0)), (1, .int x1)] [] σ
abbrev G_M_orphanAt_34 (l : Launch) (v : gs_V) (n : Nat) (post : Int32 → gs_S → Prop) (σ : gs_S) : Prop := gG l v lyM 33 me_M_orphanAt n (qI v lyM 33 post) 34 [] [] σ
abbrev G_M_orphanAt_35 (l : Launch) (v : gs_V) (n : Nat) (post : Int32 → gs_S → Prop) (σ : gs_S) (s0 : Int32) : Prop := gG l v lyM 33 me_M_orphanAt n (qI v lyM 33 post) 35 [] [.int s0] σ
set_option maxRecDepth 20000 in
set_option maxHeartbeats 1000000 in
theorem T_M_orphanAt_0 {l : Launch} {v : gs_V} {n : Nat} {post : Int32 → gs_S → Prop} {σ : gs_S} {x1 : Int32} (h : ((¬ (σ.1 0 2) = 0 → gM l v lyM 33 me_M_findOrphan n [.ref (v.2.2 0)] σ (qV v lyM 33 (fun σ1 => ((x1 < 0 → G_M_orphanAt_34 l v n post σ1) ∧ (¬ x1 < 0 → (((σ1.1 0 42) ≤ x1 → G_M_orphanAt_34 l v n post σ1) ∧ (¬ (σ1.1 0 42) ≤ x1 → vp_in x1 512 ∧ G_M_orphanAt_35 l v n post σ1 (σ1.1 25 x1.toNatClampNeg)))))))) ∧ ((σ.1 0 2) = 0 → post ((-1)) σ))) : G_M_orphanAt_0 l v n post σ x1 := by
  refine g_aload_n d_M_orphanAt_0 0 rfl rfl ?_
  refine g_getV (x := .int (σ.1 0 2)) d_M_orphanAt_1 fl_M_179 (by decide) rfl rfl rfl ?_
  refine g_if_ne (tgt := 9) d_M_orphanAt_4 rfl (fun hc => ?_) (fun hc => ?_)
  · have h := h.1 hc
    refine g_aload_n d_M_orphanAt_9 0 rfl rfl ?_
    refine g_callVv (av := []) (rest := []) d_M_orphanAt_10 Y_M_findOrphan lk_M_285 (by decide) rfl rfl I_M_findOrphan rfl (Nat.le_of_ble_eq_true rfl) rfl h (fun σ1 h => ?_)
    refine g_iload_n d_M_orphanAt_13 1 rfl rfl ?_
    refine g_if_lt (tgt := 34) d_M_orphanAt_14 rfl (fun hc => ?_) (fun hc => ?_)
    · have h := h.1 hc
      exact g_sub [] rfl h
    · have h := h.2 hc
      refine g_iload_n d_M_orphanAt_17 1 rfl rfl ?_
      refine g_aload_n d_M_orphanAt_18 0 rfl rfl ?_
      refine g_getV (x := .int (σ1.1 0 42)) d_M_orphanAt_19 fl_M_270 (by decide) rfl rfl rfl ?_
      refine g_icmp_ge (tgt := 34) d_M_orphanAt_22 rfl (fun hc => ?_) (fun hc => ?_)
      · have h := h.1 hc
        exact g_sub [] rfl h
      · have h := h.2 hc
        refine g_aload_n d_M_orphanAt_25 0 rfl rfl ?_
        refine g_getV (x := .ref (v.2.2 25)) d_M_orphanAt_26 fl_M_88 (by decide) rfl rfl rfl ?_
        refine g_iload_n d_M_orphanAt_29 1 rfl rfl ?_
        have hi2 := h.1
        have h := h.2
        refine g_iald (x := σ1.1 25 x1.toNatClampNeg) d_M_orphanAt_30 (by decide) rfl hi2 rfl ?_
        refine g_goto (tgt := 35) d_M_orphanAt_31 rfl ?_
        exact g_sub [] rfl h
  · have h := h.2 hc
    refine g_iconst d_M_orphanAt_7 (x := (-1)) (by decide) ?_
    exact g_iret d_M_orphanAt_8 rfl h
set_option maxRecDepth 20000 in
set_option maxHeartbeats 1000000 in
theorem T_M_orphanAt_34 {l : Launch} {v : gs_V} {n : Nat} {post : Int32 → gs_S → Prop} {σ : gs_S} (h : G_M_orphanAt_35 l v n post σ ((-1))) : G_M_orphanAt_34 l v n post σ := by
  refine g_iconst d_M_orphanAt_34 (x := (-1)) (by decide) ?_
  exact h
set_option maxRecDepth 20000 in
set_option maxHeartbeats 1000000 in
theorem T_M_orphanAt_35 {l : Launch} {v : gs_V} {n : Nat} {post : Int32 → gs_S → Prop} {σ : gs_S} {s0 : Int32} (h : post s0 σ) : G_M_orphanAt_35 l v n post σ s0 := by
  exact g_iret d_M_orphanAt_35 rfl h
theorem E_M_orphanAt {l : Launch} {v : gs_V} {n : Nat} {post : Int32 → gs_S → Prop} {σ : gs_S} {x1 : Int32} (h : G_M_orphanAt_0 l v n post σ x1) : gM l v lyM 33 me_M_orphanAt (n + 1) [.ref (v.2.2 0), .int x1] σ (qI v lyM 33 post) := gM_of (by decide +kernel) (Nat.le_of_ble_eq_true rfl) h
/-! LineRulesModel.population -/
theorem d_M_population_0 : decode me_M_population.2.1 0 = .ok (.aload_n 0, 1) := by decide +kernel
theorem d_M_population_1 : decode me_M_population.2.1 1 = .ok (.getfield 179, 3) := by decide +kernel
theorem d_M_population_4 : decode me_M_population.2.1 4 = .ok (.ifCond .eq 15, 3) := by decide +kernel
theorem d_M_population_7 : decode me_M_population.2.1 7 = .ok (.iload_n 1, 1) := by decide +kernel
theorem d_M_population_8 : decode me_M_population.2.1 8 = .ok (.ifCond .lt 11, 3) := by decide +kernel
theorem d_M_population_11 : decode me_M_population.2.1 11 = .ok (.iload_n 1, 1) := by decide +kernel
theorem d_M_population_12 : decode me_M_population.2.1 12 = .ok (.aload_n 0, 1) := by decide +kernel
theorem d_M_population_13 : decode me_M_population.2.1 13 = .ok (.getfield 179, 3) := by decide +kernel
theorem d_M_population_16 : decode me_M_population.2.1 16 = .ok (.if_icmp .lt 5, 3) := by decide +kernel
theorem d_M_population_19 : decode me_M_population.2.1 19 = .ok (.iconst (-1), 1) := by decide +kernel
theorem d_M_population_20 : decode me_M_population.2.1 20 = .ok (.ireturn, 1) := by decide +kernel
theorem d_M_population_21 : decode me_M_population.2.1 21 = .ok (.iconst 0, 1) := by decide +kernel
theorem d_M_population_22 : decode me_M_population.2.1 22 = .ok (.istore_n 2, 1) := by decide +kernel
theorem d_M_population_23 : decode me_M_population.2.1 23 = .ok (.iconst 0, 1) := by decide +kernel
theorem d_M_population_24 : decode me_M_population.2.1 24 = .ok (.istore_n 3, 1) := by decide +kernel
theorem d_M_population_25 : decode me_M_population.2.1 25 = .ok (.iload_n 3, 1) := by decide +kernel
theorem d_M_population_26 : decode me_M_population.2.1 26 = .ok (.aload_n 0, 1) := by decide +kernel
theorem d_M_population_27 : decode me_M_population.2.1 27 = .ok (.getfield 16, 3) := by decide +kernel
theorem d_M_population_30 : decode me_M_population.2.1 30 = .ok (.if_icmp .ge 27, 3) := by decide +kernel
theorem d_M_population_33 : decode me_M_population.2.1 33 = .ok (.aload_n 0, 1) := by decide +kernel
theorem d_M_population_34 : decode me_M_population.2.1 34 = .ok (.getfield 20, 3) := by decide +kernel
theorem d_M_population_37 : decode me_M_population.2.1 37 = .ok (.iload_n 3, 1) := by decide +kernel
theorem d_M_population_38 : decode me_M_population.2.1 38 = .ok (.iaload, 1) := by decide +kernel
theorem d_M_population_39 : decode me_M_population.2.1 39 = .ok (.iload_n 1, 1) := by decide +kernel
theorem d_M_population_40 : decode me_M_population.2.1 40 = .ok (.if_icmp .ne 9, 3) := by decide +kernel
theorem d_M_population_43 : decode me_M_population.2.1 43 = .ok (.iload_n 2, 1) := by decide +kernel
theorem d_M_population_44 : decode me_M_population.2.1 44 = .ok (.iconst 1, 1) := by decide +kernel
theorem d_M_population_45 : decode me_M_population.2.1 45 = .ok (.iadd, 1) := by decide +kernel
theorem d_M_population_46 : decode me_M_population.2.1 46 = .ok (.goto 4, 3) := by decide +kernel
theorem d_M_population_49 : decode me_M_population.2.1 49 = .ok (.iload_n 2, 1) := by decide +kernel
theorem d_M_population_50 : decode me_M_population.2.1 50 = .ok (.istore_n 2, 1) := by decide +kernel
theorem d_M_population_51 : decode me_M_population.2.1 51 = .ok (.iinc 3 1, 3) := by decide +kernel
theorem d_M_population_54 : decode me_M_population.2.1 54 = .ok (.goto (-29), 3) := by decide +kernel
theorem d_M_population_57 : decode me_M_population.2.1 57 = .ok (.iload_n 2, 1) := by decide +kernel
theorem d_M_population_58 : decode me_M_population.2.1 58 = .ok (.ireturn, 1) := by decide +kernel
abbrev G_M_population_0 (l : Launch) (v : gs_V) (n : Nat) (post : Int32 → gs_S → Prop) (σ : gs_S) (x1 : Int32) : Prop := gG l v lyM 33 me_M_population n (qI v lyM 33 post) 0 [(0, .ref (v.2.2 0)), (1, .int x1)] [] σ
abbrev G_M_population_19 (l : Launch) (v : gs_V) (n : Nat) (post : Int32 → gs_S → Prop) (σ : gs_S) : Prop := gG l v lyM 33 me_M_population n (qI v lyM 33 post) 19 [] [] σ
abbrev G_M_population_25 (l : Launch) (v : gs_V) (n : Nat) (post : Int32 → gs_S → Prop) (σ : gs_S) (x1 : Int32) (x2 : Int32) (x3 : Int32) : Prop := gG l v lyM 33 me_M_population n (qI v lyM 33 post) 25 [(0, .ref (v.2.2 0)), (1, .int x1), (2, .int x2), (3, .int x3)] [] σ
abbrev G_M_population_50 (l : Launch) (v : gs_V) (n : Nat) (post : Int32 → gs_S → Prop) (σ : gs_S) (x1 : Int32) (x3 : Int32) (s0 : Int32) : Prop := gG l v lyM 33 me_M_population n (qI v lyM 33 post) 50 [(0, .ref (v.2.2 0)), (1, .int x1), (3, .int x3)] [.int s0] σ
set_option maxRecDepth 20000 in
set_option maxHeartbeats 1000000 in
theorem T_M_population_0 {l : Launch} {v : gs_V} {n : Nat} {post : Int32 → gs_S → Prop} {σ : gs_S} {x1 : Int32} (h : (((σ.1 0 2) = 0 → G_M_population_19 l v n post σ) ∧ (¬ (σ.1 0 2) = 0 → ((x1 < 0 → G_M_population_19 l v n post σ) ∧ (¬ x1 < 0 → ((x1 < (σ.1 0 2) → G_M_population_25 l v n post σ x1 0 0) ∧ (¬ x1 < (σ.1 0 2) → G_M_population_19 l v n post σ))))))) : G_M_population_0 l v n post σ x1 := by
  refine g_aload_n d_M_population_0 0 rfl rfl ?_
  refine g_getV (x := .int (σ.1 0 2)) d_M_population_1 fl_M_179 (by decide) rfl rfl rfl ?_
  refine g_if_eq (tgt := 19) d_M_population_4 rfl (fun hc => ?_) (fun hc => ?_)
  · have h := h.1 hc
    exact g_sub [] rfl h
  · have h := h.2 hc
    refine g_iload_n d_M_population_7 1 rfl rfl ?_
    refine g_if_lt (tgt := 19) d_M_population_8 rfl (fun hc => ?_) (fun hc => ?_)
    · have h := h.1 hc
      exact g_sub [] rfl h
    · have h := h.2 hc
      refine g_iload_n d_M_population_11 1 rfl rfl ?_
      refine g_aload_n d_M_population_12 0 rfl rfl ?_
      refine g_getV (x := .int (σ.1 0 2)) d_M_population_13 fl_M_179 (by decide) rfl rfl rfl ?_
      refine g_icmp_lt (tgt := 21) d_M_population_16 rfl (fun hc => ?_) (fun hc => ?_)
      · have h := h.1 hc
        refine g_iconst d_M_population_21 (x := 0) (by decide) ?_
        refine g_istore_n (L' := [(2, .int 0), (0, .ref (v.2.2 0)), (1, .int x1)]) d_M_population_22 rfl (by decide) rfl ?_
        refine g_iconst d_M_population_23 (x := 0) (by decide) ?_
        refine g_istore_n (L' := [(3, .int 0), (2, .int 0), (0, .ref (v.2.2 0)), (1, .int x1)]) d_M_population_24 rfl (by decide) rfl ?_
        exact g_sub [2, 3, 1, 0] rfl h
      · have h := h.2 hc
        exact g_sub [] rfl h
set_option maxRecDepth 20000 in
set_option maxHeartbeats 1000000 in
theorem T_M_population_19 {l : Launch} {v : gs_V} {n : Nat} {post : Int32 → gs_S → Prop} {σ : gs_S} (h : post ((-1)) σ) : G_M_population_19 l v n post σ := by
  refine g_iconst d_M_population_19 (x := (-1)) (by decide) ?_
  exact g_iret d_M_population_20 rfl h
set_option maxRecDepth 20000 in
set_option maxHeartbeats 1000000 in
theorem T_M_population_25 {l : Launch} {v : gs_V} {n : Nat} {post : Int32 → gs_S → Prop} {σ : gs_S} {x1 : Int32} {x2 : Int32} {x3 : Int32} (h : (((σ.1 0 7) ≤ x3 → post x2 σ) ∧ (¬ (σ.1 0 7) ≤ x3 → vp_in x3 64 ∧ ((¬ (σ.1 3 x3.toNatClampNeg) = x1 → G_M_population_50 l v n post σ x1 x3 x2) ∧ ((σ.1 3 x3.toNatClampNeg) = x1 → G_M_population_50 l v n post σ x1 x3 (x2 + 1)))))) : G_M_population_25 l v n post σ x1 x2 x3 := by
  refine g_iload_n d_M_population_25 3 rfl rfl ?_
  refine g_aload_n d_M_population_26 0 rfl rfl ?_
  refine g_getV (x := .int (σ.1 0 7)) d_M_population_27 fl_M_16 (by decide) rfl rfl rfl ?_
  refine g_icmp_ge (tgt := 57) d_M_population_30 rfl (fun hc => ?_) (fun hc => ?_)
  · have h := h.1 hc
    refine g_iload_n d_M_population_57 2 rfl rfl ?_
    exact g_iret d_M_population_58 rfl h
  · have h := h.2 hc
    refine g_aload_n d_M_population_33 0 rfl rfl ?_
    refine g_getV (x := .ref (v.2.2 3)) d_M_population_34 fl_M_20 (by decide) rfl rfl rfl ?_
    refine g_iload_n d_M_population_37 3 rfl rfl ?_
    have hi1 := h.1
    have h := h.2
    refine g_iald (x := σ.1 3 x3.toNatClampNeg) d_M_population_38 (by decide) rfl hi1 rfl ?_
    refine g_iload_n d_M_population_39 1 rfl rfl ?_
    refine g_icmp_ne (tgt := 49) d_M_population_40 rfl (fun hc => ?_) (fun hc => ?_)
    · have h := h.1 hc
      refine g_iload_n d_M_population_49 2 rfl rfl ?_
      exact g_sub [0, 1, 3] rfl h
    · have h := h.2 hc
      refine g_iload_n d_M_population_43 2 rfl rfl ?_
      refine g_iconst d_M_population_44 (x := 1) (by decide) ?_
      refine g_iadd d_M_population_45 ?_
      refine g_goto (tgt := 50) d_M_population_46 rfl ?_
      exact g_sub [0, 1, 3] rfl h
set_option maxRecDepth 20000 in
set_option maxHeartbeats 1000000 in
theorem T_M_population_50 {l : Launch} {v : gs_V} {n : Nat} {post : Int32 → gs_S → Prop} {σ : gs_S} {x1 : Int32} {x3 : Int32} {s0 : Int32} (h : G_M_population_25 l v n post σ x1 s0 (x3 + 1)) : G_M_population_50 l v n post σ x1 x3 s0 := by
  refine g_istore_n (L' := [(2, .int s0), (0, .ref (v.2.2 0)), (1, .int x1), (3, .int x3)]) d_M_population_50 rfl (by decide) rfl ?_
  refine g_iinc (L' := [(3, .int (x3 + 1)), (2, .int s0), (0, .ref (v.2.2 0)), (1, .int x1)]) d_M_population_51 3 rfl (by rfl) (by decide) rfl ?_
  refine g_goto (tgt := 25) d_M_population_54 rfl ?_
  exact g_sub [2, 3, 1, 0] rfl h
theorem E_M_population {l : Launch} {v : gs_V} {n : Nat} {post : Int32 → gs_S → Prop} {σ : gs_S} {x1 : Int32} (h : G_M_population_0 l v n post σ x1) : gM l v lyM 33 me_M_population (n + 1) [.ref (v.2.2 0), .int x1] σ (qI v lyM 33 post) := gM_of (by decide +kernel) (Nat.le_of_ble_eq_true rfl) h
/-! LineRulesModel.powerOf -/
theorem d_M_powerOf_0 : decode me_M_powerOf.2.1 0 = .ok (.iconst 1, 1) := by decide +kernel
theorem d_M_powerOf_1 : decode me_M_powerOf.2.1 1 = .ok (.istore_n 2, 1) := by decide +kernel
theorem d_M_powerOf_2 : decode me_M_powerOf.2.1 2 = .ok (.iconst 0, 1) := by decide +kernel
theorem d_M_powerOf_3 : decode me_M_powerOf.2.1 3 = .ok (.istore_n 3, 1) := by decide +kernel
theorem d_M_powerOf_4 : decode me_M_powerOf.2.1 4 = .ok (.iload_n 3, 1) := by decide +kernel
theorem d_M_powerOf_5 : decode me_M_powerOf.2.1 5 = .ok (.iload_n 1, 1) := by decide +kernel
theorem d_M_powerOf_6 : decode me_M_powerOf.2.1 6 = .ok (.if_icmp .ge 13, 3) := by decide +kernel
theorem d_M_powerOf_9 : decode me_M_powerOf.2.1 9 = .ok (.iload_n 2, 1) := by decide +kernel
theorem d_M_powerOf_10 : decode me_M_powerOf.2.1 10 = .ok (.iload_n 0, 1) := by decide +kernel
theorem d_M_powerOf_11 : decode me_M_powerOf.2.1 11 = .ok (.imul, 1) := by decide +kernel
theorem d_M_powerOf_12 : decode me_M_powerOf.2.1 12 = .ok (.istore_n 2, 1) := by decide +kernel
theorem d_M_powerOf_13 : decode me_M_powerOf.2.1 13 = .ok (.iinc 3 1, 3) := by decide +kernel
theorem d_M_powerOf_16 : decode me_M_powerOf.2.1 16 = .ok (.goto (-12), 3) := by decide +kernel
theorem d_M_powerOf_19 : decode me_M_powerOf.2.1 19 = .ok (.iload_n 2, 1) := by decide +kernel
theorem d_M_powerOf_20 : decode me_M_powerOf.2.1 20 = .ok (.ireturn, 1) := by decide +kernel
abbrev G_M_powerOf_0 (l : Launch) (v : gs_V) (n : Nat) (post : Int32 → gs_S → Prop) (σ : gs_S) (x0 : Int32) (x1 : Int32) : Prop := gG l v lyM 33 me_M_powerOf n (qI v lyM 33 post) 0 [(0, .int x0), (1, .int x1)] [] σ
abbrev G_M_powerOf_4 (l : Launch) (v : gs_V) (n : Nat) (post : Int32 → gs_S → Prop) (σ : gs_S) (x0 : Int32) (x1 : Int32) (x2 : Int32) (x3 : Int32) : Prop := gG l v lyM 33 me_M_powerOf n (qI v lyM 33 post) 4 [(0, .int x0), (1, .int x1), (2, .int x2), (3, .int x3)] [] σ
set_option maxRecDepth 20000 in
set_option maxHeartbeats 1000000 in
theorem T_M_powerOf_0 {l : Launch} {v : gs_V} {n : Nat} {post : Int32 → gs_S → Prop} {σ : gs_S} {x0 : Int32} {x1 : Int32} (h : G_M_powerOf_4 l v n post σ x0 x1 1 0) : G_M_powerOf_0 l v n post σ x0 x1 := by
  refine g_iconst d_M_powerOf_0 (x := 1) (by decide) ?_
  refine g_istore_n (L' := [(2, .int 1), (0, .int x0), (1, .int x1)]) d_M_powerOf_1 rfl (by decide) rfl ?_
  refine g_iconst d_M_powerOf_2 (x := 0) (by decide) ?_
  refine g_istore_n (L' := [(3, .int 0), (2, .int 1), (0, .int x0), (1, .int x1)]) d_M_powerOf_3 rfl (by decide) rfl ?_
  exact g_sub [2, 3, 1, 0] rfl h
set_option maxRecDepth 20000 in
set_option maxHeartbeats 1000000 in
theorem T_M_powerOf_4 {l : Launch} {v : gs_V} {n : Nat} {post : Int32 → gs_S → Prop} {σ : gs_S} {x0 : Int32} {x1 : Int32} {x2 : Int32} {x3 : Int32} (h : ((x1 ≤ x3 → post x2 σ) ∧ (¬ x1 ≤ x3 → G_M_powerOf_4 l v n post σ x0 x1 (x2 * x0) (x3 + 1)))) : G_M_powerOf_4 l v n post σ x0 x1 x2 x3 := by
  refine g_iload_n d_M_powerOf_4 3 rfl rfl ?_
  refine g_iload_n d_M_powerOf_5 1 rfl rfl ?_
  refine g_icmp_ge (tgt := 19) d_M_powerOf_6 rfl (fun hc => ?_) (fun hc => ?_)
  · have h := h.1 hc
    refine g_iload_n d_M_powerOf_19 2 rfl rfl ?_
    exact g_iret d_M_powerOf_20 rfl h
  · have h := h.2 hc
    refine g_iload_n d_M_powerOf_9 2 rfl rfl ?_
    refine g_iload_n d_M_powerOf_10 0 rfl rfl ?_
    refine g_imul d_M_powerOf_11 ?_
    refine g_istore_n (L' := [(2, .int (x2 * x0)), (0, .int x0), (1, .int x1), (3, .int x3)]) d_M_powerOf_12 rfl (by decide) rfl ?_
    refine g_iinc (L' := [(3, .int (x3 + 1)), (2, .int (x2 * x0)), (0, .int x0), (1, .int x1)]) d_M_powerOf_13 3 rfl (by rfl) (by decide) rfl ?_
    refine g_goto (tgt := 4) d_M_powerOf_16 rfl ?_
    exact g_sub [2, 3, 1, 0] rfl h
theorem E_M_powerOf {l : Launch} {v : gs_V} {n : Nat} {post : Int32 → gs_S → Prop} {σ : gs_S} {x0 : Int32} {x1 : Int32} (h : G_M_powerOf_0 l v n post σ x0 x1) : gM l v lyM 33 me_M_powerOf (n + 1) [.int x0, .int x1] σ (qI v lyM 33 post) := gM_of (by decide +kernel) (Nat.le_of_ble_eq_true rfl) h
/-! LineRulesModel.readAll -/
theorem d_M_readAll_0 : decode me_M_readAll.2.1 0 = .ok (.aload_n 0, 1) := by decide +kernel
theorem d_M_readAll_1 : decode me_M_readAll.2.1 1 = .ok (.getfield 112, 3) := by decide +kernel
theorem d_M_readAll_4 : decode me_M_readAll.2.1 4 = .ok (.iconst 1, 1) := by decide +kernel
theorem d_M_readAll_5 : decode me_M_readAll.2.1 5 = .ok (.if_icmp .lt 25, 3) := by decide +kernel
theorem d_M_readAll_8 : decode me_M_readAll.2.1 8 = .ok (.aload_n 0, 1) := by decide +kernel
theorem d_M_readAll_9 : decode me_M_readAll.2.1 9 = .ok (.getfield 7, 3) := by decide +kernel
theorem d_M_readAll_12 : decode me_M_readAll.2.1 12 = .ok (.iconst 0, 1) := by decide +kernel
theorem d_M_readAll_13 : decode me_M_readAll.2.1 13 = .ok (.iaload, 1) := by decide +kernel
theorem d_M_readAll_14 : decode me_M_readAll.2.1 14 = .ok (.bipush 50, 2) := by decide +kernel
theorem d_M_readAll_16 : decode me_M_readAll.2.1 16 = .ok (.if_icmp .lt 14, 3) := by decide +kernel
theorem d_M_readAll_19 : decode me_M_readAll.2.1 19 = .ok (.aload_n 0, 1) := by decide +kernel
theorem d_M_readAll_20 : decode me_M_readAll.2.1 20 = .ok (.getfield 7, 3) := by decide +kernel
theorem d_M_readAll_23 : decode me_M_readAll.2.1 23 = .ok (.iconst 0, 1) := by decide +kernel
theorem d_M_readAll_24 : decode me_M_readAll.2.1 24 = .ok (.iaload, 1) := by decide +kernel
theorem d_M_readAll_25 : decode me_M_readAll.2.1 25 = .ok (.bipush 52, 2) := by decide +kernel
theorem d_M_readAll_27 : decode me_M_readAll.2.1 27 = .ok (.if_icmp .le 5, 3) := by decide +kernel
theorem d_M_readAll_30 : decode me_M_readAll.2.1 30 = .ok (.iconst 0, 1) := by decide +kernel
theorem d_M_readAll_31 : decode me_M_readAll.2.1 31 = .ok (.ireturn, 1) := by decide +kernel
theorem d_M_readAll_32 : decode me_M_readAll.2.1 32 = .ok (.aload_n 0, 1) := by decide +kernel
theorem d_M_readAll_33 : decode me_M_readAll.2.1 33 = .ok (.getfield 112, 3) := by decide +kernel
theorem d_M_readAll_36 : decode me_M_readAll.2.1 36 = .ok (.iconst 2, 1) := by decide +kernel
theorem d_M_readAll_37 : decode me_M_readAll.2.1 37 = .ok (.if_icmp .lt 25, 3) := by decide +kernel
theorem d_M_readAll_40 : decode me_M_readAll.2.1 40 = .ok (.aload_n 0, 1) := by decide +kernel
theorem d_M_readAll_41 : decode me_M_readAll.2.1 41 = .ok (.getfield 7, 3) := by decide +kernel
theorem d_M_readAll_44 : decode me_M_readAll.2.1 44 = .ok (.iconst 1, 1) := by decide +kernel
theorem d_M_readAll_45 : decode me_M_readAll.2.1 45 = .ok (.iaload, 1) := by decide +kernel
theorem d_M_readAll_46 : decode me_M_readAll.2.1 46 = .ok (.bipush 49, 2) := by decide +kernel
theorem d_M_readAll_48 : decode me_M_readAll.2.1 48 = .ok (.if_icmp .lt 14, 3) := by decide +kernel
theorem d_M_readAll_51 : decode me_M_readAll.2.1 51 = .ok (.aload_n 0, 1) := by decide +kernel
theorem d_M_readAll_52 : decode me_M_readAll.2.1 52 = .ok (.getfield 7, 3) := by decide +kernel
theorem d_M_readAll_55 : decode me_M_readAll.2.1 55 = .ok (.iconst 1, 1) := by decide +kernel
theorem d_M_readAll_56 : decode me_M_readAll.2.1 56 = .ok (.iaload, 1) := by decide +kernel
theorem d_M_readAll_57 : decode me_M_readAll.2.1 57 = .ok (.bipush 52, 2) := by decide +kernel
theorem d_M_readAll_59 : decode me_M_readAll.2.1 59 = .ok (.if_icmp .le 5, 3) := by decide +kernel
theorem d_M_readAll_62 : decode me_M_readAll.2.1 62 = .ok (.iconst 1, 1) := by decide +kernel
theorem d_M_readAll_63 : decode me_M_readAll.2.1 63 = .ok (.ireturn, 1) := by decide +kernel
theorem d_M_readAll_64 : decode me_M_readAll.2.1 64 = .ok (.aload_n 0, 1) := by decide +kernel
theorem d_M_readAll_65 : decode me_M_readAll.2.1 65 = .ok (.aload_n 0, 1) := by decide +kernel
theorem d_M_readAll_66 : decode me_M_readAll.2.1 66 = .ok (.getfield 7, 3) := by decide +kernel
theorem d_M_readAll_69 : decode me_M_readAll.2.1 69 = .ok (.iconst 0, 1) := by decide +kernel
theorem d_M_readAll_70 : decode me_M_readAll.2.1 70 = .ok (.iaload, 1) := by decide +kernel
theorem d_M_readAll_71 : decode me_M_readAll.2.1 71 = .ok (.bipush 48, 2) := by decide +kernel
theorem d_M_readAll_73 : decode me_M_readAll.2.1 73 = .ok (.isub, 1) := by decide +kernel
theorem d_M_readAll_74 : decode me_M_readAll.2.1 74 = .ok (.putfield 122, 3) := by decide +kernel
theorem d_M_readAll_77 : decode me_M_readAll.2.1 77 = .ok (.aload_n 0, 1) := by decide +kernel
theorem d_M_readAll_78 : decode me_M_readAll.2.1 78 = .ok (.aload_n 0, 1) := by decide +kernel
theorem d_M_readAll_79 : decode me_M_readAll.2.1 79 = .ok (.getfield 7, 3) := by decide +kernel
theorem d_M_readAll_82 : decode me_M_readAll.2.1 82 = .ok (.iconst 1, 1) := by decide +kernel
theorem d_M_readAll_83 : decode me_M_readAll.2.1 83 = .ok (.iaload, 1) := by decide +kernel
theorem d_M_readAll_84 : decode me_M_readAll.2.1 84 = .ok (.bipush 48, 2) := by decide +kernel
theorem d_M_readAll_86 : decode me_M_readAll.2.1 86 = .ok (.isub, 1) := by decide +kernel
theorem d_M_readAll_87 : decode me_M_readAll.2.1 87 = .ok (.putfield 144, 3) := by decide +kernel
theorem d_M_readAll_90 : decode me_M_readAll.2.1 90 = .ok (.aload_n 0, 1) := by decide +kernel
theorem d_M_readAll_91 : decode me_M_readAll.2.1 91 = .ok (.getfield 112, 3) := by decide +kernel
theorem d_M_readAll_94 : decode me_M_readAll.2.1 94 = .ok (.iconst 3, 1) := by decide +kernel
theorem d_M_readAll_95 : decode me_M_readAll.2.1 95 = .ok (.if_icmp .ge 7, 3) := by decide +kernel
theorem d_M_readAll_98 : decode me_M_readAll.2.1 98 = .ok (.iconst 0, 1) := by decide +kernel
theorem d_M_readAll_99 : decode me_M_readAll.2.1 99 = .ok (.goto 9, 3) := by decide +kernel
theorem d_M_readAll_102 : decode me_M_readAll.2.1 102 = .ok (.aload_n 0, 1) := by decide +kernel
theorem d_M_readAll_103 : decode me_M_readAll.2.1 103 = .ok (.getfield 7, 3) := by decide +kernel
theorem d_M_readAll_106 : decode me_M_readAll.2.1 106 = .ok (.iconst 2, 1) := by decide +kernel
theorem d_M_readAll_107 : decode me_M_readAll.2.1 107 = .ok (.iaload, 1) := by decide +kernel
theorem d_M_readAll_108 : decode me_M_readAll.2.1 108 = .ok (.istore_n 1, 1) := by decide +kernel
theorem d_M_readAll_109 : decode me_M_readAll.2.1 109 = .ok (.iload_n 1, 1) := by decide +kernel
theorem d_M_readAll_110 : decode me_M_readAll.2.1 110 = .ok (.bipush 84, 2) := by decide +kernel
theorem d_M_readAll_112 : decode me_M_readAll.2.1 112 = .ok (.if_icmp .ne 19, 3) := by decide +kernel
theorem d_M_readAll_115 : decode me_M_readAll.2.1 115 = .ok (.aload_n 0, 1) := by decide +kernel
theorem d_M_readAll_116 : decode me_M_readAll.2.1 116 = .ok (.aload_n 0, 1) := by decide +kernel
theorem d_M_readAll_117 : decode me_M_readAll.2.1 117 = .ok (.getfield 122, 3) := by decide +kernel
theorem d_M_readAll_120 : decode me_M_readAll.2.1 120 = .ok (.aload_n 0, 1) := by decide +kernel
theorem d_M_readAll_121 : decode me_M_readAll.2.1 121 = .ok (.getfield 144, 3) := by decide +kernel
theorem d_M_readAll_124 : decode me_M_readAll.2.1 124 = .ok (.invokestatic 147, 3) := by decide +kernel
theorem d_M_readAll_127 : decode me_M_readAll.2.1 127 = .ok (.invokevirtual 169, 3) := by decide +kernel
theorem d_M_readAll_130 : decode me_M_readAll.2.1 130 = .ok (.ireturn, 1) := by decide +kernel
theorem d_M_readAll_131 : decode me_M_readAll.2.1 131 = .ok (.iload_n 1, 1) := by decide +kernel
theorem d_M_readAll_132 : decode me_M_readAll.2.1 132 = .ok (.bipush 83, 2) := by decide +kernel
theorem d_M_readAll_134 : decode me_M_readAll.2.1 134 = .ok (.if_icmp .ne 21, 3) := by decide +kernel
theorem d_M_readAll_137 : decode me_M_readAll.2.1 137 = .ok (.aload_n 0, 1) := by decide +kernel
theorem d_M_readAll_138 : decode me_M_readAll.2.1 138 = .ok (.aload_n 0, 1) := by decide +kernel
theorem d_M_readAll_139 : decode me_M_readAll.2.1 139 = .ok (.getfield 122, 3) := by decide +kernel
theorem d_M_readAll_142 : decode me_M_readAll.2.1 142 = .ok (.iconst 1, 1) := by decide +kernel
theorem d_M_readAll_143 : decode me_M_readAll.2.1 143 = .ok (.isub, 1) := by decide +kernel
theorem d_M_readAll_144 : decode me_M_readAll.2.1 144 = .ok (.aload_n 0, 1) := by decide +kernel
theorem d_M_readAll_145 : decode me_M_readAll.2.1 145 = .ok (.getfield 144, 3) := by decide +kernel
theorem d_M_readAll_148 : decode me_M_readAll.2.1 148 = .ok (.imul, 1) := by decide +kernel
theorem d_M_readAll_149 : decode me_M_readAll.2.1 149 = .ok (.iconst 1, 1) := by decide +kernel
theorem d_M_readAll_150 : decode me_M_readAll.2.1 150 = .ok (.iadd, 1) := by decide +kernel
theorem d_M_readAll_151 : decode me_M_readAll.2.1 151 = .ok (.invokevirtual 169, 3) := by decide +kernel
theorem d_M_readAll_154 : decode me_M_readAll.2.1 154 = .ok (.ireturn, 1) := by decide +kernel
theorem d_M_readAll_155 : decode me_M_readAll.2.1 155 = .ok (.iload_n 1, 1) := by decide +kernel
theorem d_M_readAll_156 : decode me_M_readAll.2.1 156 = .ok (.bipush 69, 2) := by decide +kernel
theorem d_M_readAll_158 : decode me_M_readAll.2.1 158 = .ok (.if_icmp .ne 11, 3) := by decide +kernel
theorem d_M_readAll_161 : decode me_M_readAll.2.1 161 = .ok (.aload_n 0, 1) := by decide +kernel
theorem d_M_readAll_162 : decode me_M_readAll.2.1 162 = .ok (.iconst 0, 1) := by decide +kernel
theorem d_M_readAll_163 : decode me_M_readAll.2.1 163 = .ok (.invokevirtual 173, 3) := by decide +kernel
theorem d_M_readAll_166 : decode me_M_readAll.2.1 166 = .ok (.goto 4, 3) := by decide +kernel
theorem d_M_readAll_169 : decode me_M_readAll.2.1 169 = .ok (.iconst 0, 1) := by decide +kernel
theorem d_M_readAll_170 : decode me_M_readAll.2.1 170 = .ok (.istore_n 2, 1) := by decide +kernel
theorem d_M_readAll_171 : decode me_M_readAll.2.1 171 = .ok (.iload_n 1, 1) := by decide +kernel
theorem d_M_readAll_172 : decode me_M_readAll.2.1 172 = .ok (.bipush 69, 2) := by decide +kernel
theorem d_M_readAll_174 : decode me_M_readAll.2.1 174 = .ok (.if_icmp .ne 10, 3) := by decide +kernel
theorem d_M_readAll_177 : decode me_M_readAll.2.1 177 = .ok (.aload_n 0, 1) := by decide +kernel
theorem d_M_readAll_178 : decode me_M_readAll.2.1 178 = .ok (.getfield 158, 3) := by decide +kernel
theorem d_M_readAll_181 : decode me_M_readAll.2.1 181 = .ok (.goto 4, 3) := by decide +kernel
theorem d_M_readAll_184 : decode me_M_readAll.2.1 184 = .ok (.iconst 2, 1) := by decide +kernel
theorem d_M_readAll_185 : decode me_M_readAll.2.1 185 = .ok (.ireturn, 1) := by decide +kernel
abbrev G_M_readAll_0 (l : Launch) (v : gs_V) (n : Nat) (post : Int32 → gs_S → Prop) (σ : gs_S) : Prop := gG l v lyM 33 me_M_readAll n (qI v lyM 33 post) 0 [(0, .ref (v.2.2 0))] [] σ
abbrev G_M_readAll_30 (l : Launch) (v : gs_V) (n : Nat) (post : Int32 → gs_S → Prop) (σ : gs_S) : Prop := gG l v lyM 33 me_M_readAll n (qI v lyM 33 post) 30 [] [] σ
abbrev G_M_readAll_62 (l : Launch) (v : gs_V) (n : Nat) (post : Int32 → gs_S → Prop) (σ : gs_S) : Prop := gG l v lyM 33 me_M_readAll n (qI v lyM 33 post) 62 [] [] σ
abbrev G_M_readAll_108 (l : Launch) (v : gs_V) (n : Nat) (post : Int32 → gs_S → Prop) (σ : gs_S) (s0 : Int32) : Prop := gG l v lyM 33 me_M_readAll n (qI v lyM 33 post) 108 [(0, .ref (v.2.2 0))] [.int s0] σ
abbrev G_M_readAll_170 (l : Launch) (v : gs_V) (n : Nat) (post : Int32 → gs_S → Prop) (σ : gs_S) (x1 : Int32) (s0 : Int32) : Prop := gG l v lyM 33 me_M_readAll n (qI v lyM 33 post) 170 [(0, .ref (v.2.2 0)), (1, .int x1)] [.int s0] σ
abbrev G_M_readAll_185 (l : Launch) (v : gs_V) (n : Nat) (post : Int32 → gs_S → Prop) (σ : gs_S) (s0 : Int32) : Prop := gG l v lyM 33 me_M_readAll n (qI v lyM 33 post) 185 [] [.int s0] σ
set_option maxRecDepth 20000 in
set_option maxHeartbeats 1000000 in
theorem T_M_readAll_0 {l : Launch} {v : gs_V} {n : Nat} {post : Int32 → gs_S → Prop} {σ : gs_S} (h : (((σ.1 0 0) < 1 → G_M_readAll_30 l v n post σ) ∧ (¬ (σ.1 0 0) < 1 → (((σ.1 1 0) < 50 → G_M_readAll_30 l v n post σ) ∧ (¬ (σ.1 1 0) < 50 → (((σ.1 1 0) ≤ 52 → (((σ.1 0 0) < 2 → G_M_readAll_62 l v n post σ) ∧ (¬ (σ.1 0 0) < 2 → (((σ.1 1 1) < 49 → G_M_readAll_62 l v n post σ) ∧ (¬ (σ.1 1 1) < 49 → (((σ.1 1 1) ≤ 52 → ((3 ≤ (σ.1 0 0) → G_M_readAll_108 l v n post (gs_pI (gs_pI σ 0 10 ((σ.1 1 0) - 48)) 0 11 ((σ.1 1 1) - 48)) (σ.1 1 2)) ∧ (¬ 3 ≤ (σ.1 0 0) → G_M_readAll_108 l v n post (gs_pI (gs_pI σ 0 10 ((σ.1 1 0) - 48)) 0 11 ((σ.1 1 1) - 48)) 0))) ∧ (¬ (σ.1 1 1) ≤ 52 → G_M_readAll_62 l v n post σ))))))) ∧ (¬ (σ.1 1 0) ≤ 52 → G_M_readAll_30 l v n post σ))))))) : G_M_readAll_0 l v n post σ := by
  refine g_aload_n d_M_readAll_0 0 rfl rfl ?_
  refine g_getV (x := .int (σ.1 0 0)) d_M_readAll_1 fl_M_112 (by decide) rfl rfl rfl ?_
  refine g_iconst d_M_readAll_4 (x := 1) (by decide) ?_
  refine g_icmp_lt (tgt := 30) d_M_readAll_5 rfl (fun hc => ?_) (fun hc => ?_)
  · have h := h.1 hc
    exact g_sub [] rfl h
  · have h := h.2 hc
    refine g_aload_n d_M_readAll_8 0 rfl rfl ?_
    refine g_getV (x := .ref (v.2.2 1)) d_M_readAll_9 fl_M_7 (by decide) rfl rfl rfl ?_
    refine g_iconst d_M_readAll_12 (x := 0) (by decide) ?_
    refine g_iald (x := σ.1 1 0) d_M_readAll_13 (by decide) rfl (g_lit (k := 0) (by decide) (by decide)) rfl ?_
    refine g_bipush d_M_readAll_14 (x := 50) (by decide) ?_
    refine g_icmp_lt (tgt := 30) d_M_readAll_16 rfl (fun hc => ?_) (fun hc => ?_)
    · have h := h.1 hc
      exact g_sub [] rfl h
    · have h := h.2 hc
      refine g_aload_n d_M_readAll_19 0 rfl rfl ?_
      refine g_getV (x := .ref (v.2.2 1)) d_M_readAll_20 fl_M_7 (by decide) rfl rfl rfl ?_
      refine g_iconst d_M_readAll_23 (x := 0) (by decide) ?_
      refine g_iald (x := σ.1 1 0) d_M_readAll_24 (by decide) rfl (g_lit (k := 0) (by decide) (by decide)) rfl ?_
      refine g_bipush d_M_readAll_25 (x := 52) (by decide) ?_
      refine g_icmp_le (tgt := 32) d_M_readAll_27 rfl (fun hc => ?_) (fun hc => ?_)
      · have h := h.1 hc
        refine g_aload_n d_M_readAll_32 0 rfl rfl ?_
        refine g_getV (x := .int (σ.1 0 0)) d_M_readAll_33 fl_M_112 (by decide) rfl rfl rfl ?_
        refine g_iconst d_M_readAll_36 (x := 2) (by decide) ?_
        refine g_icmp_lt (tgt := 62) d_M_readAll_37 rfl (fun hc => ?_) (fun hc => ?_)
        · have h := h.1 hc
          exact g_sub [] rfl h
        · have h := h.2 hc
          refine g_aload_n d_M_readAll_40 0 rfl rfl ?_
          refine g_getV (x := .ref (v.2.2 1)) d_M_readAll_41 fl_M_7 (by decide) rfl rfl rfl ?_
          refine g_iconst d_M_readAll_44 (x := 1) (by decide) ?_
          refine g_iald (x := σ.1 1 1) d_M_readAll_45 (by decide) rfl (g_lit (k := 1) (by decide) (by decide)) rfl ?_
          refine g_bipush d_M_readAll_46 (x := 49) (by decide) ?_
          refine g_icmp_lt (tgt := 62) d_M_readAll_48 rfl (fun hc => ?_) (fun hc => ?_)
          · have h := h.1 hc
            exact g_sub [] rfl h
          · have h := h.2 hc
            refine g_aload_n d_M_readAll_51 0 rfl rfl ?_
            refine g_getV (x := .ref (v.2.2 1)) d_M_readAll_52 fl_M_7 (by decide) rfl rfl rfl ?_
            refine g_iconst d_M_readAll_55 (x := 1) (by decide) ?_
            refine g_iald (x := σ.1 1 1) d_M_readAll_56 (by decide) rfl (g_lit (k := 1) (by decide) (by decide)) rfl ?_
            refine g_bipush d_M_readAll_57 (x := 52) (by decide) ?_
            refine g_icmp_le (tgt := 64) d_M_readAll_59 rfl (fun hc => ?_) (fun hc => ?_)
            · have h := h.1 hc
              refine g_aload_n d_M_readAll_64 0 rfl rfl ?_
              refine g_aload_n d_M_readAll_65 0 rfl rfl ?_
              refine g_getV (x := .ref (v.2.2 1)) d_M_readAll_66 fl_M_7 (by decide) rfl rfl rfl ?_
              refine g_iconst d_M_readAll_69 (x := 0) (by decide) ?_
              refine g_iald (x := σ.1 1 0) d_M_readAll_70 (by decide) rfl (g_lit (k := 0) (by decide) (by decide)) rfl ?_
              refine g_bipush d_M_readAll_71 (x := 48) (by decide) ?_
              refine g_isub d_M_readAll_73 ?_
              refine g_putI d_M_readAll_74 fp_M_122 (by decide) rfl rfl ⟨rfl, rfl⟩ ?_
              refine g_aload_n d_M_readAll_77 0 rfl rfl ?_
              refine g_aload_n d_M_readAll_78 0 rfl rfl ?_
              refine g_getV (x := .ref (v.2.2 1)) d_M_readAll_79 fl_M_7 (by decide) rfl rfl rfl ?_
              refine g_iconst d_M_readAll_82 (x := 1) (by decide) ?_
              refine g_iald (x := σ.1 1 1) d_M_readAll_83 (by decide) rfl (g_lit (k := 1) (by decide) (by decide)) rfl ?_
              refine g_bipush d_M_readAll_84 (x := 48) (by decide) ?_
              refine g_isub d_M_readAll_86 ?_
              refine g_putI d_M_readAll_87 fp_M_144 (by decide) rfl rfl ⟨rfl, rfl⟩ ?_
              refine g_aload_n d_M_readAll_90 0 rfl rfl ?_
              refine g_getV (x := .int (σ.1 0 0)) d_M_readAll_91 fl_M_112 (by decide) rfl rfl rfl ?_
              refine g_iconst d_M_readAll_94 (x := 3) (by decide) ?_
              refine g_icmp_ge (tgt := 102) d_M_readAll_95 rfl (fun hc => ?_) (fun hc => ?_)
              · have h := h.1 hc
                refine g_aload_n d_M_readAll_102 0 rfl rfl ?_
                refine g_getV (x := .ref (v.2.2 1)) d_M_readAll_103 fl_M_7 (by decide) rfl rfl rfl ?_
                refine g_iconst d_M_readAll_106 (x := 2) (by decide) ?_
                refine g_iald (x := σ.1 1 2) d_M_readAll_107 (by decide) rfl (g_lit (k := 2) (by decide) (by decide)) rfl ?_
                exact h
              · have h := h.2 hc
                refine g_iconst d_M_readAll_98 (x := 0) (by decide) ?_
                refine g_goto (tgt := 108) d_M_readAll_99 rfl ?_
                exact h
            · have h := h.2 hc
              exact g_sub [] rfl h
      · have h := h.2 hc
        exact g_sub [] rfl h
set_option maxRecDepth 20000 in
set_option maxHeartbeats 1000000 in
theorem T_M_readAll_30 {l : Launch} {v : gs_V} {n : Nat} {post : Int32 → gs_S → Prop} {σ : gs_S} (h : post 0 σ) : G_M_readAll_30 l v n post σ := by
  refine g_iconst d_M_readAll_30 (x := 0) (by decide) ?_
  exact g_iret d_M_readAll_31 rfl h
set_option maxRecDepth 20000 in
set_option maxHeartbeats 1000000 in
theorem T_M_readAll_62 {l : Launch} {v : gs_V} {n : Nat} {post : Int32 → gs_S → Prop} {σ : gs_S} (h : post 1 σ) : G_M_readAll_62 l v n post σ := by
  refine g_iconst d_M_readAll_62 (x := 1) (by decide) ?_
  exact g_iret d_M_readAll_63 rfl h
set_option maxRecDepth 20000 in
set_option maxHeartbeats 1000000 in
theorem T_M_readAll_108 {l : Launch} {v : gs_V} {n : Nat} {post : Int32 → gs_S → Prop} {σ : gs_S} {s0 : Int32} (h : ((¬ s0 = 84 → ((¬ s0 = 83 → ((¬ s0 = 69 → G_M_readAll_170 l v n post σ s0 0) ∧ (s0 = 69 → gM l v lyM 33 me_M_work n [.ref (v.2.2 0), .int 0] σ (qI v lyM 33 (fun r1 σ1 => G_M_readAll_170 l v n post σ1 s0 r1))))) ∧ (s0 = 83 → gM l v lyM 33 me_M_readRow n [.ref (v.2.2 0), .int ((((σ.1 0 10) - 1) * (σ.1 0 11)) + 1)] σ (qI v lyM 33 (fun r2 σ2 => post r2 σ2))))) ∧ (s0 = 84 → gM l v lyM 33 me_M_powerOf n [.int (σ.1 0 10), .int (σ.1 0 11)] σ (qI v lyM 33 (fun r3 σ3 => gM l v lyM 33 me_M_readRow n [.ref (v.2.2 0), .int r3] σ3 (qI v lyM 33 (fun r4 σ4 => post r4 σ4))))))) : G_M_readAll_108 l v n post σ s0 := by
  refine g_istore_n (L' := [(1, .int s0), (0, .ref (v.2.2 0))]) d_M_readAll_108 rfl (by decide) rfl ?_
  refine g_iload_n d_M_readAll_109 0 rfl rfl ?_
  refine g_bipush d_M_readAll_110 (x := 84) (by decide) ?_
  refine g_icmp_ne (tgt := 131) d_M_readAll_112 rfl (fun hc => ?_) (fun hc => ?_)
  · have h := h.1 hc
    refine g_iload_n d_M_readAll_131 0 rfl rfl ?_
    refine g_bipush d_M_readAll_132 (x := 83) (by decide) ?_
    refine g_icmp_ne (tgt := 155) d_M_readAll_134 rfl (fun hc => ?_) (fun hc => ?_)
    · have h := h.1 hc
      refine g_iload_n d_M_readAll_155 0 rfl rfl ?_
      refine g_bipush d_M_readAll_156 (x := 69) (by decide) ?_
      refine g_icmp_ne (tgt := 169) d_M_readAll_158 rfl (fun hc => ?_) (fun hc => ?_)
      · have h := h.1 hc
        refine g_iconst d_M_readAll_169 (x := 0) (by decide) ?_
        exact g_sub [1, 0] rfl h
      · have h := h.2 hc
        refine g_aload_n d_M_readAll_161 1 rfl rfl ?_
        refine g_iconst d_M_readAll_162 (x := 0) (by decide) ?_
        refine g_callVi (av := [.int 0]) (rest := []) d_M_readAll_163 Y_M_work lk_M_173 (by decide) rfl rfl I_M_work rfl (Nat.le_of_ble_eq_true rfl) rfl h (fun r1 σ1 h => ?_)
        refine g_goto (tgt := 170) d_M_readAll_166 rfl ?_
        exact g_sub [1, 0] rfl h
    · have h := h.2 hc
      refine g_aload_n d_M_readAll_137 1 rfl rfl ?_
      refine g_aload_n d_M_readAll_138 1 rfl rfl ?_
      refine g_getV (x := .int (σ.1 0 10)) d_M_readAll_139 fl_M_122 (by decide) rfl rfl rfl ?_
      refine g_iconst d_M_readAll_142 (x := 1) (by decide) ?_
      refine g_isub d_M_readAll_143 ?_
      refine g_aload_n d_M_readAll_144 1 rfl rfl ?_
      refine g_getV (x := .int (σ.1 0 11)) d_M_readAll_145 fl_M_144 (by decide) rfl rfl rfl ?_
      refine g_imul d_M_readAll_148 ?_
      refine g_iconst d_M_readAll_149 (x := 1) (by decide) ?_
      refine g_iadd d_M_readAll_150 ?_
      refine g_callVi (av := [.int ((((σ.1 0 10) - 1) * (σ.1 0 11)) + 1)]) (rest := []) d_M_readAll_151 Y_M_readRow lk_M_169 (by decide) rfl rfl I_M_readRow rfl (Nat.le_of_ble_eq_true rfl) rfl h (fun r2 σ2 h => ?_)
      exact g_iret d_M_readAll_154 rfl h
  · have h := h.2 hc
    refine g_aload_n d_M_readAll_115 1 rfl rfl ?_
    refine g_aload_n d_M_readAll_116 1 rfl rfl ?_
    refine g_getV (x := .int (σ.1 0 10)) d_M_readAll_117 fl_M_122 (by decide) rfl rfl rfl ?_
    refine g_aload_n d_M_readAll_120 1 rfl rfl ?_
    refine g_getV (x := .int (σ.1 0 11)) d_M_readAll_121 fl_M_144 (by decide) rfl rfl rfl ?_
    refine g_callSi (av := [.int (σ.1 0 10), .int (σ.1 0 11)]) (rest := [.ref (v.2.2 0)]) d_M_readAll_124 Y_M_powerOf lk_M_147 I_M_powerOf rfl (Nat.le_of_ble_eq_true rfl) rfl h (fun r3 σ3 h => ?_)
    refine g_callVi (av := [.int r3]) (rest := []) d_M_readAll_127 Y_M_readRow lk_M_169 (by decide) rfl rfl I_M_readRow rfl (Nat.le_of_ble_eq_true rfl) rfl h (fun r4 σ4 h => ?_)
    exact g_iret d_M_readAll_130 rfl h
set_option maxRecDepth 20000 in
set_option maxHeartbeats 1000000 in
theorem T_M_readAll_170 {l : Launch} {v : gs_V} {n : Nat} {post : Int32 → gs_S → Prop} {σ : gs_S} {x1 : Int32} {s0 : Int32} (h : ((¬ x1 = 69 → G_M_readAll_185 l v n post σ 2) ∧ (x1 = 69 → G_M_readAll_185 l v n post σ (σ.1 0 12)))) : G_M_readAll_170 l v n post σ x1 s0 := by
  refine g_istore_n (L' := [(2, .int s0), (0, .ref (v.2.2 0)), (1, .int x1)]) d_M_readAll_170 rfl (by decide) rfl ?_
  refine g_iload_n d_M_readAll_171 2 rfl rfl ?_
  refine g_bipush d_M_readAll_172 (x := 69) (by decide) ?_
  refine g_icmp_ne (tgt := 184) d_M_readAll_174 rfl (fun hc => ?_) (fun hc => ?_)
  · have h := h.1 hc
    refine g_iconst d_M_readAll_184 (x := 2) (by decide) ?_
    exact g_sub [] rfl h
  · have h := h.2 hc
    refine g_aload_n d_M_readAll_177 1 rfl rfl ?_
    refine g_getV (x := .int (σ.1 0 12)) d_M_readAll_178 fl_M_158 (by decide) rfl rfl rfl ?_
    refine g_goto (tgt := 185) d_M_readAll_181 rfl ?_
    exact g_sub [] rfl h
set_option maxRecDepth 20000 in
set_option maxHeartbeats 1000000 in
theorem T_M_readAll_185 {l : Launch} {v : gs_V} {n : Nat} {post : Int32 → gs_S → Prop} {σ : gs_S} {s0 : Int32} (h : post s0 σ) : G_M_readAll_185 l v n post σ s0 := by
  exact g_iret d_M_readAll_185 rfl h
theorem E_M_readAll {l : Launch} {v : gs_V} {n : Nat} {post : Int32 → gs_S → Prop} {σ : gs_S} (h : G_M_readAll_0 l v n post σ) : gM l v lyM 33 me_M_readAll (n + 1) [.ref (v.2.2 0)] σ (qI v lyM 33 post) := gM_of (by decide +kernel) (Nat.le_of_ble_eq_true rfl) h
/-! LineRulesModel.readRow -/
theorem d_M_readRow_0 : decode me_M_readRow.2.1 0 = .ok (.iconst 0, 1) := by decide +kernel
theorem d_M_readRow_1 : decode me_M_readRow.2.1 1 = .ok (.istore_n 2, 1) := by decide +kernel
theorem d_M_readRow_2 : decode me_M_readRow.2.1 2 = .ok (.iload_n 2, 1) := by decide +kernel
theorem d_M_readRow_3 : decode me_M_readRow.2.1 3 = .ok (.iload_n 1, 1) := by decide +kernel
theorem d_M_readRow_4 : decode me_M_readRow.2.1 4 = .ok (.if_icmp .ge 59, 3) := by decide +kernel
theorem d_M_readRow_7 : decode me_M_readRow.2.1 7 = .ok (.iconst 3, 1) := by decide +kernel
theorem d_M_readRow_8 : decode me_M_readRow.2.1 8 = .ok (.iload_n 2, 1) := by decide +kernel
theorem d_M_readRow_9 : decode me_M_readRow.2.1 9 = .ok (.iadd, 1) := by decide +kernel
theorem d_M_readRow_10 : decode me_M_readRow.2.1 10 = .ok (.aload_n 0, 1) := by decide +kernel
theorem d_M_readRow_11 : decode me_M_readRow.2.1 11 = .ok (.getfield 112, 3) := by decide +kernel
theorem d_M_readRow_14 : decode me_M_readRow.2.1 14 = .ok (.if_icmp .lt 8, 3) := by decide +kernel
theorem d_M_readRow_17 : decode me_M_readRow.2.1 17 = .ok (.aload_n 0, 1) := by decide +kernel
theorem d_M_readRow_18 : decode me_M_readRow.2.1 18 = .ok (.getfield 112, 3) := by decide +kernel
theorem d_M_readRow_21 : decode me_M_readRow.2.1 21 = .ok (.ireturn, 1) := by decide +kernel
theorem d_M_readRow_22 : decode me_M_readRow.2.1 22 = .ok (.aload_n 0, 1) := by decide +kernel
theorem d_M_readRow_23 : decode me_M_readRow.2.1 23 = .ok (.getfield 7, 3) := by decide +kernel
theorem d_M_readRow_26 : decode me_M_readRow.2.1 26 = .ok (.iconst 3, 1) := by decide +kernel
theorem d_M_readRow_27 : decode me_M_readRow.2.1 27 = .ok (.iload_n 2, 1) := by decide +kernel
theorem d_M_readRow_28 : decode me_M_readRow.2.1 28 = .ok (.iadd, 1) := by decide +kernel
theorem d_M_readRow_29 : decode me_M_readRow.2.1 29 = .ok (.iaload, 1) := by decide +kernel
theorem d_M_readRow_30 : decode me_M_readRow.2.1 30 = .ok (.bipush 48, 2) := by decide +kernel
theorem d_M_readRow_32 : decode me_M_readRow.2.1 32 = .ok (.if_icmp .lt 21, 3) := by decide +kernel
theorem d_M_readRow_35 : decode me_M_readRow.2.1 35 = .ok (.aload_n 0, 1) := by decide +kernel
theorem d_M_readRow_36 : decode me_M_readRow.2.1 36 = .ok (.getfield 7, 3) := by decide +kernel
theorem d_M_readRow_39 : decode me_M_readRow.2.1 39 = .ok (.iconst 3, 1) := by decide +kernel
theorem d_M_readRow_40 : decode me_M_readRow.2.1 40 = .ok (.iload_n 2, 1) := by decide +kernel
theorem d_M_readRow_41 : decode me_M_readRow.2.1 41 = .ok (.iadd, 1) := by decide +kernel
theorem d_M_readRow_42 : decode me_M_readRow.2.1 42 = .ok (.iaload, 1) := by decide +kernel
theorem d_M_readRow_43 : decode me_M_readRow.2.1 43 = .ok (.bipush 48, 2) := by decide +kernel
theorem d_M_readRow_45 : decode me_M_readRow.2.1 45 = .ok (.aload_n 0, 1) := by decide +kernel
theorem d_M_readRow_46 : decode me_M_readRow.2.1 46 = .ok (.getfield 122, 3) := by decide +kernel
theorem d_M_readRow_49 : decode me_M_readRow.2.1 49 = .ok (.iadd, 1) := by decide +kernel
theorem d_M_readRow_50 : decode me_M_readRow.2.1 50 = .ok (.if_icmp .lt 7, 3) := by decide +kernel
theorem d_M_readRow_53 : decode me_M_readRow.2.1 53 = .ok (.iconst 3, 1) := by decide +kernel
theorem d_M_readRow_54 : decode me_M_readRow.2.1 54 = .ok (.iload_n 2, 1) := by decide +kernel
theorem d_M_readRow_55 : decode me_M_readRow.2.1 55 = .ok (.iadd, 1) := by decide +kernel
theorem d_M_readRow_56 : decode me_M_readRow.2.1 56 = .ok (.ireturn, 1) := by decide +kernel
theorem d_M_readRow_57 : decode me_M_readRow.2.1 57 = .ok (.iinc 2 1, 3) := by decide +kernel
theorem d_M_readRow_60 : decode me_M_readRow.2.1 60 = .ok (.goto (-58), 3) := by decide +kernel
theorem d_M_readRow_63 : decode me_M_readRow.2.1 63 = .ok (.aload_n 0, 1) := by decide +kernel
theorem d_M_readRow_64 : decode me_M_readRow.2.1 64 = .ok (.getfield 112, 3) := by decide +kernel
theorem d_M_readRow_67 : decode me_M_readRow.2.1 67 = .ok (.iconst 3, 1) := by decide +kernel
theorem d_M_readRow_68 : decode me_M_readRow.2.1 68 = .ok (.iload_n 1, 1) := by decide +kernel
theorem d_M_readRow_69 : decode me_M_readRow.2.1 69 = .ok (.iadd, 1) := by decide +kernel
theorem d_M_readRow_70 : decode me_M_readRow.2.1 70 = .ok (.if_icmp .le 9, 3) := by decide +kernel
theorem d_M_readRow_73 : decode me_M_readRow.2.1 73 = .ok (.iconst 3, 1) := by decide +kernel
theorem d_M_readRow_74 : decode me_M_readRow.2.1 74 = .ok (.iload_n 1, 1) := by decide +kernel
theorem d_M_readRow_75 : decode me_M_readRow.2.1 75 = .ok (.iadd, 1) := by decide +kernel
theorem d_M_readRow_76 : decode me_M_readRow.2.1 76 = .ok (.goto 4, 3) := by decide +kernel
theorem d_M_readRow_79 : decode me_M_readRow.2.1 79 = .ok (.iconst (-1), 1) := by decide +kernel
theorem d_M_readRow_80 : decode me_M_readRow.2.1 80 = .ok (.ireturn, 1) := by decide +kernel
abbrev G_M_readRow_0 (l : Launch) (v : gs_V) (n : Nat) (post : Int32 → gs_S → Prop) (σ : gs_S) (x1 : Int32) : Prop := gG l v lyM 33 me_M_readRow n (qI v lyM 33 post) 0 [(0, .ref (v.2.2 0)), (1, .int x1)] [] σ
abbrev G_M_readRow_2 (l : Launch) (v : gs_V) (n : Nat) (post : Int32 → gs_S → Prop) (σ : gs_S) (x1 : Int32) (x2 : Int32) : Prop := gG l v lyM 33 me_M_readRow n (qI v lyM 33 post) 2 [(0, .ref (v.2.2 0)), (1, .int x1), (2, .int x2)] [] σ
abbrev G_M_readRow_53 (l : Launch) (v : gs_V) (n : Nat) (post : Int32 → gs_S → Prop) (σ : gs_S) (x2 : Int32) : Prop := gG l v lyM 33 me_M_readRow n (qI v lyM 33 post) 53 [(2, .int x2)] [] σ
abbrev G_M_readRow_80 (l : Launch) (v : gs_V) (n : Nat) (post : Int32 → gs_S → Prop) (σ : gs_S) (s0 : Int32) : Prop := gG l v lyM 33 me_M_readRow n (qI v lyM 33 post) 80 [] [.int s0] σ
set_option maxRecDepth 20000 in
set_option maxHeartbeats 1000000 in
theorem T_M_readRow_0 {l : Launch} {v : gs_V} {n : Nat} {post : Int32 → gs_S → Prop} {σ : gs_S} {x1 : Int32} (h : G_M_readRow_2 l v n post σ x1 0) : G_M_readRow_0 l v n post σ x1 := by
  refine g_iconst d_M_readRow_0 (x := 0) (by decide) ?_
  refine g_istore_n (L' := [(2, .int 0), (0, .ref (v.2.2 0)), (1, .int x1)]) d_M_readRow_1 rfl (by decide) rfl ?_
  exact g_sub [1, 2, 0] rfl h
set_option maxRecDepth 20000 in
set_option maxHeartbeats 1000000 in
theorem T_M_readRow_2 {l : Launch} {v : gs_V} {n : Nat} {post : Int32 → gs_S → Prop} {σ : gs_S} {x1 : Int32} {x2 : Int32} (h : ((x1 ≤ x2 → (((σ.1 0 0) ≤ (3 + x1) → G_M_readRow_80 l v n post σ ((-1))) ∧ (¬ (σ.1 0 0) ≤ (3 + x1) → G_M_readRow_80 l v n post σ (3 + x1)))) ∧ (¬ x1 ≤ x2 → (((3 + x2) < (σ.1 0 0) → vp_in (3 + x2) 64 ∧ (((σ.1 1 ((3 + x2).toNatClampNeg)) < 48 → G_M_readRow_53 l v n post σ x2) ∧ (¬ (σ.1 1 ((3 + x2).toNatClampNeg)) < 48 → vp_in (3 + x2) 64 ∧ (((σ.1 1 ((3 + x2).toNatClampNeg)) < (48 + (σ.1 0 10)) → G_M_readRow_2 l v n post σ x1 (x2 + 1)) ∧ (¬ (σ.1 1 ((3 + x2).toNatClampNeg)) < (48 + (σ.1 0 10)) → G_M_readRow_53 l v n post σ x2))))) ∧ (¬ (3 + x2) < (σ.1 0 0) → post (σ.1 0 0) σ))))) : G_M_readRow_2 l v n post σ x1 x2 := by
  refine g_iload_n d_M_readRow_2 2 rfl rfl ?_
  refine g_iload_n d_M_readRow_3 1 rfl rfl ?_
  refine g_icmp_ge (tgt := 63) d_M_readRow_4 rfl (fun hc => ?_) (fun hc => ?_)
  · have h := h.1 hc
    refine g_aload_n d_M_readRow_63 0 rfl rfl ?_
    refine g_getV (x := .int (σ.1 0 0)) d_M_readRow_64 fl_M_112 (by decide) rfl rfl rfl ?_
    refine g_iconst d_M_readRow_67 (x := 3) (by decide) ?_
    refine g_iload_n d_M_readRow_68 1 rfl rfl ?_
    refine g_iadd d_M_readRow_69 ?_
    refine g_icmp_le (tgt := 79) d_M_readRow_70 rfl (fun hc => ?_) (fun hc => ?_)
    · have h := h.1 hc
      refine g_iconst d_M_readRow_79 (x := (-1)) (by decide) ?_
      exact g_sub [] rfl h
    · have h := h.2 hc
      refine g_iconst d_M_readRow_73 (x := 3) (by decide) ?_
      refine g_iload_n d_M_readRow_74 1 rfl rfl ?_
      refine g_iadd d_M_readRow_75 ?_
      refine g_goto (tgt := 80) d_M_readRow_76 rfl ?_
      exact g_sub [] rfl h
  · have h := h.2 hc
    refine g_iconst d_M_readRow_7 (x := 3) (by decide) ?_
    refine g_iload_n d_M_readRow_8 2 rfl rfl ?_
    refine g_iadd d_M_readRow_9 ?_
    refine g_aload_n d_M_readRow_10 0 rfl rfl ?_
    refine g_getV (x := .int (σ.1 0 0)) d_M_readRow_11 fl_M_112 (by decide) rfl rfl rfl ?_
    refine g_icmp_lt (tgt := 22) d_M_readRow_14 rfl (fun hc => ?_) (fun hc => ?_)
    · have h := h.1 hc
      refine g_aload_n d_M_readRow_22 0 rfl rfl ?_
      refine g_getV (x := .ref (v.2.2 1)) d_M_readRow_23 fl_M_7 (by decide) rfl rfl rfl ?_
      refine g_iconst d_M_readRow_26 (x := 3) (by decide) ?_
      refine g_iload_n d_M_readRow_27 2 rfl rfl ?_
      refine g_iadd d_M_readRow_28 ?_
      have hi1 := h.1
      have h := h.2
      refine g_iald (x := σ.1 1 ((3 + x2).toNatClampNeg)) d_M_readRow_29 (by decide) rfl hi1 rfl ?_
      refine g_bipush d_M_readRow_30 (x := 48) (by decide) ?_
      refine g_icmp_lt (tgt := 53) d_M_readRow_32 rfl (fun hc => ?_) (fun hc => ?_)
      · have h := h.1 hc
        exact g_sub [2] rfl h
      · have h := h.2 hc
        refine g_aload_n d_M_readRow_35 0 rfl rfl ?_
        refine g_getV (x := .ref (v.2.2 1)) d_M_readRow_36 fl_M_7 (by decide) rfl rfl rfl ?_
        refine g_iconst d_M_readRow_39 (x := 3) (by decide) ?_
        refine g_iload_n d_M_readRow_40 2 rfl rfl ?_
        refine g_iadd d_M_readRow_41 ?_
        have hi2 := h.1
        have h := h.2
        refine g_iald (x := σ.1 1 ((3 + x2).toNatClampNeg)) d_M_readRow_42 (by decide) rfl hi2 rfl ?_
        refine g_bipush d_M_readRow_43 (x := 48) (by decide) ?_
        refine g_aload_n d_M_readRow_45 0 rfl rfl ?_
        refine g_getV (x := .int (σ.1 0 10)) d_M_readRow_46 fl_M_122 (by decide) rfl rfl rfl ?_
        refine g_iadd d_M_readRow_49 ?_
        refine g_icmp_lt (tgt := 57) d_M_readRow_50 rfl (fun hc => ?_) (fun hc => ?_)
        · have h := h.1 hc
          refine g_iinc (L' := [(2, .int (x2 + 1)), (0, .ref (v.2.2 0)), (1, .int x1)]) d_M_readRow_57 2 rfl (by rfl) (by decide) rfl ?_
          refine g_goto (tgt := 2) d_M_readRow_60 rfl ?_
          exact g_sub [1, 2, 0] rfl h
        · have h := h.2 hc
          exact g_sub [2] rfl h
    · have h := h.2 hc
      refine g_aload_n d_M_readRow_17 0 rfl rfl ?_
      refine g_getV (x := .int (σ.1 0 0)) d_M_readRow_18 fl_M_112 (by decide) rfl rfl rfl ?_
      exact g_iret d_M_readRow_21 rfl h
set_option maxRecDepth 20000 in
set_option maxHeartbeats 1000000 in
theorem T_M_readRow_53 {l : Launch} {v : gs_V} {n : Nat} {post : Int32 → gs_S → Prop} {σ : gs_S} {x2 : Int32} (h : post (3 + x2) σ) : G_M_readRow_53 l v n post σ x2 := by
  refine g_iconst d_M_readRow_53 (x := 3) (by decide) ?_
  refine g_iload_n d_M_readRow_54 0 rfl rfl ?_
  refine g_iadd d_M_readRow_55 ?_
  exact g_iret d_M_readRow_56 rfl h
set_option maxRecDepth 20000 in
set_option maxHeartbeats 1000000 in
theorem T_M_readRow_80 {l : Launch} {v : gs_V} {n : Nat} {post : Int32 → gs_S → Prop} {σ : gs_S} {s0 : Int32} (h : post s0 σ) : G_M_readRow_80 l v n post σ s0 := by
  exact g_iret d_M_readRow_80 rfl h
theorem E_M_readRow {l : Launch} {v : gs_V} {n : Nat} {post : Int32 → gs_S → Prop} {σ : gs_S} {x1 : Int32} (h : G_M_readRow_0 l v n post σ x1) : gM l v lyM 33 me_M_readRow (n + 1) [.ref (v.2.2 0), .int x1] σ (qI v lyM 33 post) := gM_of (by decide +kernel) (Nat.le_of_ble_eq_true rfl) h
/-! LineRulesModel.reduce -/
theorem d_M_reduce_0 : decode me_M_reduce.2.1 0 = .ok (.aload_n 0, 1) := by decide +kernel
theorem d_M_reduce_1 : decode me_M_reduce.2.1 1 = .ok (.getfield 81, 3) := by decide +kernel
theorem d_M_reduce_4 : decode me_M_reduce.2.1 4 = .ok (.iconst 4, 1) := by decide +kernel
theorem d_M_reduce_5 : decode me_M_reduce.2.1 5 = .ok (.iload_n 1, 1) := by decide +kernel
theorem d_M_reduce_6 : decode me_M_reduce.2.1 6 = .ok (.imul, 1) := by decide +kernel
theorem d_M_reduce_7 : decode me_M_reduce.2.1 7 = .ok (.iload_n 2, 1) := by decide +kernel
theorem d_M_reduce_8 : decode me_M_reduce.2.1 8 = .ok (.iadd, 1) := by decide +kernel
theorem d_M_reduce_9 : decode me_M_reduce.2.1 9 = .ok (.laload, 1) := by decide +kernel
theorem d_M_reduce_10 : decode me_M_reduce.2.1 10 = .ok (.lstore_n 3, 1) := by decide +kernel
theorem d_M_reduce_11 : decode me_M_reduce.2.1 11 = .ok (.aload_n 0, 1) := by decide +kernel
theorem d_M_reduce_12 : decode me_M_reduce.2.1 12 = .ok (.getfield 85, 3) := by decide +kernel
theorem d_M_reduce_15 : decode me_M_reduce.2.1 15 = .ok (.iload_n 2, 1) := by decide +kernel
theorem d_M_reduce_16 : decode me_M_reduce.2.1 16 = .ok (.laload, 1) := by decide +kernel
theorem d_M_reduce_17 : decode me_M_reduce.2.1 17 = .ok (.lstore 5, 2) := by decide +kernel
theorem d_M_reduce_19 : decode me_M_reduce.2.1 19 = .ok (.lconst 0, 1) := by decide +kernel
theorem d_M_reduce_20 : decode me_M_reduce.2.1 20 = .ok (.lstore 7, 2) := by decide +kernel
theorem d_M_reduce_22 : decode me_M_reduce.2.1 22 = .ok (.iconst 1, 1) := by decide +kernel
theorem d_M_reduce_23 : decode me_M_reduce.2.1 23 = .ok (.istore 9, 2) := by decide +kernel
theorem d_M_reduce_25 : decode me_M_reduce.2.1 25 = .ok (.iload 9, 2) := by decide +kernel
theorem d_M_reduce_27 : decode me_M_reduce.2.1 27 = .ok (.iconst 4, 1) := by decide +kernel
theorem d_M_reduce_28 : decode me_M_reduce.2.1 28 = .ok (.if_icmp .ge 54, 3) := by decide +kernel
theorem d_M_reduce_31 : decode me_M_reduce.2.1 31 = .ok (.aload_n 0, 1) := by decide +kernel
theorem d_M_reduce_32 : decode me_M_reduce.2.1 32 = .ok (.getfield 85, 3) := by decide +kernel
theorem d_M_reduce_35 : decode me_M_reduce.2.1 35 = .ok (.iload 9, 2) := by decide +kernel
theorem d_M_reduce_37 : decode me_M_reduce.2.1 37 = .ok (.aload_n 0, 1) := by decide +kernel
theorem d_M_reduce_38 : decode me_M_reduce.2.1 38 = .ok (.getfield 85, 3) := by decide +kernel
theorem d_M_reduce_41 : decode me_M_reduce.2.1 41 = .ok (.iload 9, 2) := by decide +kernel
theorem d_M_reduce_43 : decode me_M_reduce.2.1 43 = .ok (.laload, 1) := by decide +kernel
theorem d_M_reduce_44 : decode me_M_reduce.2.1 44 = .ok (.lload_n 3, 1) := by decide +kernel
theorem d_M_reduce_45 : decode me_M_reduce.2.1 45 = .ok (.lmul, 1) := by decide +kernel
theorem d_M_reduce_46 : decode me_M_reduce.2.1 46 = .ok (.aload_n 0, 1) := by decide +kernel
theorem d_M_reduce_47 : decode me_M_reduce.2.1 47 = .ok (.getfield 81, 3) := by decide +kernel
theorem d_M_reduce_50 : decode me_M_reduce.2.1 50 = .ok (.iconst 4, 1) := by decide +kernel
theorem d_M_reduce_51 : decode me_M_reduce.2.1 51 = .ok (.iload_n 1, 1) := by decide +kernel
theorem d_M_reduce_52 : decode me_M_reduce.2.1 52 = .ok (.imul, 1) := by decide +kernel
theorem d_M_reduce_53 : decode me_M_reduce.2.1 53 = .ok (.iload 9, 2) := by decide +kernel
theorem d_M_reduce_55 : decode me_M_reduce.2.1 55 = .ok (.iadd, 1) := by decide +kernel
theorem d_M_reduce_56 : decode me_M_reduce.2.1 56 = .ok (.laload, 1) := by decide +kernel
theorem d_M_reduce_57 : decode me_M_reduce.2.1 57 = .ok (.lload 5, 2) := by decide +kernel
theorem d_M_reduce_59 : decode me_M_reduce.2.1 59 = .ok (.lmul, 1) := by decide +kernel
theorem d_M_reduce_60 : decode me_M_reduce.2.1 60 = .ok (.lsub, 1) := by decide +kernel
theorem d_M_reduce_61 : decode me_M_reduce.2.1 61 = .ok (.lastore, 1) := by decide +kernel
theorem d_M_reduce_62 : decode me_M_reduce.2.1 62 = .ok (.aload_n 0, 1) := by decide +kernel
theorem d_M_reduce_63 : decode me_M_reduce.2.1 63 = .ok (.getfield 85, 3) := by decide +kernel
theorem d_M_reduce_66 : decode me_M_reduce.2.1 66 = .ok (.iload 9, 2) := by decide +kernel
theorem d_M_reduce_68 : decode me_M_reduce.2.1 68 = .ok (.laload, 1) := by decide +kernel
theorem d_M_reduce_69 : decode me_M_reduce.2.1 69 = .ok (.lload 7, 2) := by decide +kernel
theorem d_M_reduce_71 : decode me_M_reduce.2.1 71 = .ok (.invokestatic 248, 3) := by decide +kernel
theorem d_M_reduce_74 : decode me_M_reduce.2.1 74 = .ok (.lstore 7, 2) := by decide +kernel
theorem d_M_reduce_76 : decode me_M_reduce.2.1 76 = .ok (.iinc 9 1, 3) := by decide +kernel
theorem d_M_reduce_79 : decode me_M_reduce.2.1 79 = .ok (.goto (-54), 3) := by decide +kernel
theorem d_M_reduce_82 : decode me_M_reduce.2.1 82 = .ok (.iconst 1, 1) := by decide +kernel
theorem d_M_reduce_83 : decode me_M_reduce.2.1 83 = .ok (.istore 9, 2) := by decide +kernel
theorem d_M_reduce_85 : decode me_M_reduce.2.1 85 = .ok (.iload 9, 2) := by decide +kernel
theorem d_M_reduce_87 : decode me_M_reduce.2.1 87 = .ok (.iconst 4, 1) := by decide +kernel
theorem d_M_reduce_88 : decode me_M_reduce.2.1 88 = .ok (.if_icmp .ge 33, 3) := by decide +kernel
theorem d_M_reduce_91 : decode me_M_reduce.2.1 91 = .ok (.lload 7, 2) := by decide +kernel
theorem d_M_reduce_93 : decode me_M_reduce.2.1 93 = .ok (.lconst 1, 1) := by decide +kernel
theorem d_M_reduce_94 : decode me_M_reduce.2.1 94 = .ok (.lcmp, 1) := by decide +kernel
theorem d_M_reduce_95 : decode me_M_reduce.2.1 95 = .ok (.ifCond .le 26, 3) := by decide +kernel
theorem d_M_reduce_98 : decode me_M_reduce.2.1 98 = .ok (.aload_n 0, 1) := by decide +kernel
theorem d_M_reduce_99 : decode me_M_reduce.2.1 99 = .ok (.getfield 85, 3) := by decide +kernel
theorem d_M_reduce_102 : decode me_M_reduce.2.1 102 = .ok (.iload 9, 2) := by decide +kernel
theorem d_M_reduce_104 : decode me_M_reduce.2.1 104 = .ok (.aload_n 0, 1) := by decide +kernel
theorem d_M_reduce_105 : decode me_M_reduce.2.1 105 = .ok (.getfield 85, 3) := by decide +kernel
theorem d_M_reduce_108 : decode me_M_reduce.2.1 108 = .ok (.iload 9, 2) := by decide +kernel
theorem d_M_reduce_110 : decode me_M_reduce.2.1 110 = .ok (.laload, 1) := by decide +kernel
theorem d_M_reduce_111 : decode me_M_reduce.2.1 111 = .ok (.lload 7, 2) := by decide +kernel
theorem d_M_reduce_113 : decode me_M_reduce.2.1 113 = .ok (.ldiv, 1) := by decide +kernel
theorem d_M_reduce_114 : decode me_M_reduce.2.1 114 = .ok (.lastore, 1) := by decide +kernel
theorem d_M_reduce_115 : decode me_M_reduce.2.1 115 = .ok (.iinc 9 1, 3) := by decide +kernel
theorem d_M_reduce_118 : decode me_M_reduce.2.1 118 = .ok (.goto (-33), 3) := by decide +kernel
theorem d_M_reduce_121 : decode me_M_reduce.2.1 121 = .ok (.return_, 1) := by decide +kernel
abbrev G_M_reduce_0 (l : Launch) (v : gs_V) (n : Nat) (post : gs_S → Prop) (σ : gs_S) (x1 : Int32) (x2 : Int32) : Prop := gG l v lyM 33 me_M_reduce n (qV v lyM 33 post) 0 [(0, .ref (v.2.2 0)), (1, .int x1), (2, .int x2)] [] σ
abbrev G_M_reduce_25 (l : Launch) (v : gs_V) (n : Nat) (post : gs_S → Prop) (σ : gs_S) (x1 : Int32) (x3 : Int64) (x5 : Int64) (x7 : Int64) (x9 : Int32) : Prop := gG l v lyM 33 me_M_reduce n (qV v lyM 33 post) 25 [(0, .ref (v.2.2 0)), (1, .int x1), (3, .long x3), (5, .long x5), (7, .long x7), (9, .int x9)] [] σ
abbrev G_M_reduce_85 (l : Launch) (v : gs_V) (n : Nat) (post : gs_S → Prop) (σ : gs_S) (x7 : Int64) (x9 : Int32) : Prop := gG l v lyM 33 me_M_reduce n (qV v lyM 33 post) 85 [(0, .ref (v.2.2 0)), (7, .long x7), (9, .int x9)] [] σ
abbrev G_M_reduce_121 (l : Launch) (v : gs_V) (n : Nat) (post : gs_S → Prop) (σ : gs_S) : Prop := gG l v lyM 33 me_M_reduce n (qV v lyM 33 post) 121 [] [] σ
set_option maxRecDepth 20000 in
set_option maxHeartbeats 1000000 in
theorem T_M_reduce_0 {l : Launch} {v : gs_V} {n : Nat} {post : gs_S → Prop} {σ : gs_S} {x1 : Int32} {x2 : Int32} (h : vp_in ((4 * x1) + x2) 16 ∧ vp_in x2 4 ∧ G_M_reduce_25 l v n post σ x1 (σ.2.1 23 (((4 * x1) + x2).toNatClampNeg)) (σ.2.1 24 x2.toNatClampNeg) 0 1) : G_M_reduce_0 l v n post σ x1 x2 := by
  refine g_aload_n d_M_reduce_0 0 rfl rfl ?_
  refine g_getV (x := .ref (v.2.2 23)) d_M_reduce_1 fl_M_81 (by decide) rfl rfl rfl ?_
  refine g_iconst d_M_reduce_4 (x := 4) (by decide) ?_
  refine g_iload_n d_M_reduce_5 1 rfl rfl ?_
  refine g_imul d_M_reduce_6 ?_
  refine g_iload_n d_M_reduce_7 2 rfl rfl ?_
  refine g_iadd d_M_reduce_8 ?_
  have hi1 := h.1
  have h := h.2
  refine g_lald (x := σ.2.1 23 (((4 * x1) + x2).toNatClampNeg)) d_M_reduce_9 (by decide) rfl hi1 rfl ?_
  refine g_lstore_n (L' := [(3, .long (σ.2.1 23 (((4 * x1) + x2).toNatClampNeg))), (0, .ref (v.2.2 0)), (1, .int x1), (2, .int x2)]) d_M_reduce_10 rfl (by decide) rfl ?_
  refine g_aload_n d_M_reduce_11 1 rfl rfl ?_
  refine g_getV (x := .ref (v.2.2 24)) d_M_reduce_12 fl_M_85 (by decide) rfl rfl rfl ?_
  refine g_iload_n d_M_reduce_15 3 rfl rfl ?_
  have hi2 := h.1
  have h := h.2
  refine g_lald (x := σ.2.1 24 x2.toNatClampNeg) d_M_reduce_16 (by decide) rfl hi2 rfl ?_
  refine g_lstore (L' := [(5, .long (σ.2.1 24 x2.toNatClampNeg)), (3, .long (σ.2.1 23 (((4 * x1) + x2).toNatClampNeg))), (0, .ref (v.2.2 0)), (1, .int x1), (2, .int x2)]) d_M_reduce_17 (by decide) rfl ?_
  refine g_lconst d_M_reduce_19 (x := 0) (by decide) ?_
  refine g_lstore (L' := [(7, .long 0), (5, .long (σ.2.1 24 x2.toNatClampNeg)), (3, .long (σ.2.1 23 (((4 * x1) + x2).toNatClampNeg))), (0, .ref (v.2.2 0)), (1, .int x1), (2, .int x2)]) d_M_reduce_20 (by decide) rfl ?_
  refine g_iconst d_M_reduce_22 (x := 1) (by decide) ?_
  refine g_istore (L' := [(9, .int 1), (7, .long 0), (5, .long (σ.2.1 24 x2.toNatClampNeg)), (3, .long (σ.2.1 23 (((4 * x1) + x2).toNatClampNeg))), (0, .ref (v.2.2 0)), (1, .int x1), (2, .int x2)]) d_M_reduce_23 (by decide) rfl ?_
  exact g_sub [4, 5, 3, 2, 1, 0] rfl h
set_option maxRecDepth 20000 in
set_option maxHeartbeats 1000000 in
theorem T_M_reduce_25 {l : Launch} {v : gs_V} {n : Nat} {post : gs_S → Prop} {σ : gs_S} {x1 : Int32} {x3 : Int64} {x5 : Int64} {x7 : Int64} {x9 : Int32} (h : ((4 ≤ x9 → G_M_reduce_85 l v n post σ x7 1) ∧ (¬ 4 ≤ x9 → vp_in x9 4 ∧ vp_in ((4 * x1) + x9) 16 ∧ vp_in x9 4 ∧ vp_in x9 4 ∧ gM l v lyM 33 me_M_divisor n [.long ((gs_pL σ 24 x9.toNatClampNeg (((σ.2.1 24 x9.toNatClampNeg) * x3) - ((σ.2.1 23 (((4 * x1) + x9).toNatClampNeg)) * x5))).2.1 24 x9.toNatClampNeg), .long x7] (gs_pL σ 24 x9.toNatClampNeg (((σ.2.1 24 x9.toNatClampNeg) * x3) - ((σ.2.1 23 (((4 * x1) + x9).toNatClampNeg)) * x5))) (qL v lyM 33 (fun r5 σ5 => G_M_reduce_25 l v n post σ5 x1 x3 x5 r5 (x9 + 1)))))) : G_M_reduce_25 l v n post σ x1 x3 x5 x7 x9 := by
  refine g_iload d_M_reduce_25 5 rfl ?_
  refine g_iconst d_M_reduce_27 (x := 4) (by decide) ?_
  refine g_icmp_ge (tgt := 82) d_M_reduce_28 rfl (fun hc => ?_) (fun hc => ?_)
  · have h := h.1 hc
    refine g_iconst d_M_reduce_82 (x := 1) (by decide) ?_
    refine g_istore (L' := [(9, .int 1), (0, .ref (v.2.2 0)), (1, .int x1), (3, .long x3), (5, .long x5), (7, .long x7)]) d_M_reduce_83 (by decide) rfl ?_
    exact g_sub [1, 5, 0] rfl h
  · have h := h.2 hc
    refine g_aload_n d_M_reduce_31 0 rfl rfl ?_
    refine g_getV (x := .ref (v.2.2 24)) d_M_reduce_32 fl_M_85 (by decide) rfl rfl rfl ?_
    refine g_iload d_M_reduce_35 5 rfl ?_
    refine g_aload_n d_M_reduce_37 0 rfl rfl ?_
    refine g_getV (x := .ref (v.2.2 24)) d_M_reduce_38 fl_M_85 (by decide) rfl rfl rfl ?_
    refine g_iload d_M_reduce_41 5 rfl ?_
    have hi1 := h.1
    have h := h.2
    refine g_lald (x := σ.2.1 24 x9.toNatClampNeg) d_M_reduce_43 (by decide) rfl hi1 rfl ?_
    refine g_lload_n d_M_reduce_44 2 rfl rfl ?_
    refine g_lmul d_M_reduce_45 ?_
    refine g_aload_n d_M_reduce_46 0 rfl rfl ?_
    refine g_getV (x := .ref (v.2.2 23)) d_M_reduce_47 fl_M_81 (by decide) rfl rfl rfl ?_
    refine g_iconst d_M_reduce_50 (x := 4) (by decide) ?_
    refine g_iload_n d_M_reduce_51 1 rfl rfl ?_
    refine g_imul d_M_reduce_52 ?_
    refine g_iload d_M_reduce_53 5 rfl ?_
    refine g_iadd d_M_reduce_55 ?_
    have hi2 := h.1
    have h := h.2
    refine g_lald (x := σ.2.1 23 (((4 * x1) + x9).toNatClampNeg)) d_M_reduce_56 (by decide) rfl hi2 rfl ?_
    refine g_lload d_M_reduce_57 3 rfl ?_
    refine g_lmul d_M_reduce_59 ?_
    refine g_lsub d_M_reduce_60 ?_
    have hi3 := h.1
    have h := h.2
    refine g_last d_M_reduce_61 (by decide) rfl hi3 ?_
    refine g_aload_n d_M_reduce_62 0 rfl rfl ?_
    refine g_getV (x := .ref (v.2.2 24)) d_M_reduce_63 fl_M_85 (by decide) rfl rfl rfl ?_
    refine g_iload d_M_reduce_66 5 rfl ?_
    have hi4 := h.1
    have h := h.2
    refine g_lald (x := (gs_pL σ 24 x9.toNatClampNeg (((σ.2.1 24 x9.toNatClampNeg) * x3) - ((σ.2.1 23 (((4 * x1) + x9).toNatClampNeg)) * x5))).2.1 24 x9.toNatClampNeg) d_M_reduce_68 (by decide) rfl hi4 rfl ?_
    refine g_lload d_M_reduce_69 4 rfl ?_
    refine g_callSl (av := [.long ((gs_pL σ 24 x9.toNatClampNeg (((σ.2.1 24 x9.toNatClampNeg) * x3) - ((σ.2.1 23 (((4 * x1) + x9).toNatClampNeg)) * x5))).2.1 24 x9.toNatClampNeg), .long x7]) (rest := []) d_M_reduce_71 Y_M_divisor lk_M_248 I_M_divisor rfl (Nat.le_of_ble_eq_true rfl) rfl h (fun r5 σ5 h => ?_)
    refine g_lstore (L' := [(7, .long r5), (0, .ref (v.2.2 0)), (1, .int x1), (3, .long x3), (5, .long x5), (9, .int x9)]) d_M_reduce_74 (by decide) rfl ?_
    refine g_iinc (L' := [(9, .int (x9 + 1)), (7, .long r5), (0, .ref (v.2.2 0)), (1, .int x1), (3, .long x3), (5, .long x5)]) d_M_reduce_76 5 rfl (by rfl) (by decide) rfl ?_
    refine g_goto (tgt := 25) d_M_reduce_79 rfl ?_
    exact g_sub [2, 3, 4, 5, 1, 0] rfl h
set_option maxRecDepth 20000 in
set_option maxHeartbeats 1000000 in
theorem T_M_reduce_85 {l : Launch} {v : gs_V} {n : Nat} {post : gs_S → Prop} {σ : gs_S} {x7 : Int64} {x9 : Int32} (h : ((4 ≤ x9 → G_M_reduce_121 l v n post σ) ∧ (¬ 4 ≤ x9 → ((x7 ≤ 1 → G_M_reduce_121 l v n post σ) ∧ (¬ x7 ≤ 1 → vp_in x9 4 ∧ ¬ x7 = 0 ∧ vp_in x9 4 ∧ G_M_reduce_85 l v n post (gs_pL σ 24 x9.toNatClampNeg ((σ.2.1 24 x9.toNatClampNeg) / x7)) x7 (x9 + 1)))))) : G_M_reduce_85 l v n post σ x7 x9 := by
  refine g_iload d_M_reduce_85 2 rfl ?_
  refine g_iconst d_M_reduce_87 (x := 4) (by decide) ?_
  refine g_icmp_ge (tgt := 121) d_M_reduce_88 rfl (fun hc => ?_) (fun hc => ?_)
  · have h := h.1 hc
    exact g_sub [] rfl h
  · have h := h.2 hc
    refine g_lload d_M_reduce_91 1 rfl ?_
    refine g_lconst d_M_reduce_93 (x := 1) (by decide) ?_
    refine g_lcmp_le (tgt := 121) d_M_reduce_94 d_M_reduce_95 rfl (fun hc => ?_) (fun hc => ?_)
    · have h := h.1 hc
      exact g_sub [] rfl h
    · have h := h.2 hc
      refine g_aload_n d_M_reduce_98 0 rfl rfl ?_
      refine g_getV (x := .ref (v.2.2 24)) d_M_reduce_99 fl_M_85 (by decide) rfl rfl rfl ?_
      refine g_iload d_M_reduce_102 2 rfl ?_
      refine g_aload_n d_M_reduce_104 0 rfl rfl ?_
      refine g_getV (x := .ref (v.2.2 24)) d_M_reduce_105 fl_M_85 (by decide) rfl rfl rfl ?_
      refine g_iload d_M_reduce_108 2 rfl ?_
      have hi1 := h.1
      have h := h.2
      refine g_lald (x := σ.2.1 24 x9.toNatClampNeg) d_M_reduce_110 (by decide) rfl hi1 rfl ?_
      refine g_lload d_M_reduce_111 1 rfl ?_
      refine g_ldiv d_M_reduce_113 h.1 ?_
      have h := h.2
      have hi2 := h.1
      have h := h.2
      refine g_last d_M_reduce_114 (by decide) rfl hi2 ?_
      refine g_iinc (L' := [(9, .int (x9 + 1)), (0, .ref (v.2.2 0)), (7, .long x7)]) d_M_reduce_115 2 rfl (by rfl) (by decide) rfl ?_
      refine g_goto (tgt := 85) d_M_reduce_118 rfl ?_
      exact g_sub [1, 2, 0] rfl h
set_option maxRecDepth 20000 in
set_option maxHeartbeats 1000000 in
theorem T_M_reduce_121 {l : Launch} {v : gs_V} {n : Nat} {post : gs_S → Prop} {σ : gs_S} (h : post σ) : G_M_reduce_121 l v n post σ := by
  exact g_vret d_M_reduce_121 rfl h
theorem E_M_reduce {l : Launch} {v : gs_V} {n : Nat} {post : gs_S → Prop} {σ : gs_S} {x1 : Int32} {x2 : Int32} (h : G_M_reduce_0 l v n post σ x1 x2) : gM l v lyM 33 me_M_reduce (n + 1) [.ref (v.2.2 0), .int x1, .int x2] σ (qV v lyM 33 post) := gM_of (by decide +kernel) (Nat.le_of_ble_eq_true rfl) h
/-! LineRulesModel.ring -/
theorem d_M_ring_0 : decode me_M_ring.2.1 0 = .ok (.iload_n 1, 1) := by decide +kernel
theorem d_M_ring_1 : decode me_M_ring.2.1 1 = .ok (.iconst 1, 1) := by decide +kernel
theorem d_M_ring_2 : decode me_M_ring.2.1 2 = .ok (.if_icmp .lt 9, 3) := by decide +kernel
theorem d_M_ring_5 : decode me_M_ring.2.1 5 = .ok (.iload_n 1, 1) := by decide +kernel
theorem d_M_ring_6 : decode me_M_ring.2.1 6 = .ok (.bipush 64, 2) := by decide +kernel
theorem d_M_ring_8 : decode me_M_ring.2.1 8 = .ok (.if_icmp .le 5, 3) := by decide +kernel
theorem d_M_ring_11 : decode me_M_ring.2.1 11 = .ok (.iconst (-1), 1) := by decide +kernel
theorem d_M_ring_12 : decode me_M_ring.2.1 12 = .ok (.ireturn, 1) := by decide +kernel
theorem d_M_ring_13 : decode me_M_ring.2.1 13 = .ok (.aload_n 0, 1) := by decide +kernel
theorem d_M_ring_14 : decode me_M_ring.2.1 14 = .ok (.getfield 16, 3) := by decide +kernel
theorem d_M_ring_17 : decode me_M_ring.2.1 17 = .ok (.istore_n 2, 1) := by decide +kernel
theorem d_M_ring_18 : decode me_M_ring.2.1 18 = .ok (.aload_n 0, 1) := by decide +kernel
theorem d_M_ring_19 : decode me_M_ring.2.1 19 = .ok (.iload_n 1, 1) := by decide +kernel
theorem d_M_ring_20 : decode me_M_ring.2.1 20 = .ok (.putfield 16, 3) := by decide +kernel
theorem d_M_ring_23 : decode me_M_ring.2.1 23 = .ok (.iconst 0, 1) := by decide +kernel
theorem d_M_ring_24 : decode me_M_ring.2.1 24 = .ok (.istore_n 3, 1) := by decide +kernel
theorem d_M_ring_25 : decode me_M_ring.2.1 25 = .ok (.iload_n 3, 1) := by decide +kernel
theorem d_M_ring_26 : decode me_M_ring.2.1 26 = .ok (.bipush 64, 2) := by decide +kernel
theorem d_M_ring_28 : decode me_M_ring.2.1 28 = .ok (.if_icmp .ge 16, 3) := by decide +kernel
theorem d_M_ring_31 : decode me_M_ring.2.1 31 = .ok (.aload_n 0, 1) := by decide +kernel
theorem d_M_ring_32 : decode me_M_ring.2.1 32 = .ok (.getfield 20, 3) := by decide +kernel
theorem d_M_ring_35 : decode me_M_ring.2.1 35 = .ok (.iload_n 3, 1) := by decide +kernel
theorem d_M_ring_36 : decode me_M_ring.2.1 36 = .ok (.iconst 0, 1) := by decide +kernel
theorem d_M_ring_37 : decode me_M_ring.2.1 37 = .ok (.iastore, 1) := by decide +kernel
theorem d_M_ring_38 : decode me_M_ring.2.1 38 = .ok (.iinc 3 1, 3) := by decide +kernel
theorem d_M_ring_41 : decode me_M_ring.2.1 41 = .ok (.goto (-16), 3) := by decide +kernel
theorem d_M_ring_44 : decode me_M_ring.2.1 44 = .ok (.aload_n 0, 1) := by decide +kernel
theorem d_M_ring_45 : decode me_M_ring.2.1 45 = .ok (.iconst 0, 1) := by decide +kernel
theorem d_M_ring_46 : decode me_M_ring.2.1 46 = .ok (.putfield 210, 3) := by decide +kernel
theorem d_M_ring_49 : decode me_M_ring.2.1 49 = .ok (.iload_n 2, 1) := by decide +kernel
theorem d_M_ring_50 : decode me_M_ring.2.1 50 = .ok (.ireturn, 1) := by decide +kernel
abbrev G_M_ring_0 (l : Launch) (v : gs_V) (n : Nat) (post : Int32 → gs_S → Prop) (σ : gs_S) (x1 : Int32) : Prop := gG l v lyM 33 me_M_ring n (qI v lyM 33 post) 0 [(0, .ref (v.2.2 0)), (1, .int x1)] [] σ
abbrev G_M_ring_11 (l : Launch) (v : gs_V) (n : Nat) (post : Int32 → gs_S → Prop) (σ : gs_S) : Prop := gG l v lyM 33 me_M_ring n (qI v lyM 33 post) 11 [] [] σ
abbrev G_M_ring_25 (l : Launch) (v : gs_V) (n : Nat) (post : Int32 → gs_S → Prop) (σ : gs_S) (x2 : Int32) (x3 : Int32) : Prop := gG l v lyM 33 me_M_ring n (qI v lyM 33 post) 25 [(0, .ref (v.2.2 0)), (2, .int x2), (3, .int x3)] [] σ
set_option maxRecDepth 20000 in
set_option maxHeartbeats 1000000 in
theorem T_M_ring_0 {l : Launch} {v : gs_V} {n : Nat} {post : Int32 → gs_S → Prop} {σ : gs_S} {x1 : Int32} (h : ((x1 < 1 → G_M_ring_11 l v n post σ) ∧ (¬ x1 < 1 → ((x1 ≤ 64 → G_M_ring_25 l v n post (gs_pI σ 0 7 x1) (σ.1 0 7) 0) ∧ (¬ x1 ≤ 64 → G_M_ring_11 l v n post σ))))) : G_M_ring_0 l v n post σ x1 := by
  refine g_iload_n d_M_ring_0 1 rfl rfl ?_
  refine g_iconst d_M_ring_1 (x := 1) (by decide) ?_
  refine g_icmp_lt (tgt := 11) d_M_ring_2 rfl (fun hc => ?_) (fun hc => ?_)
  · have h := h.1 hc
    exact g_sub [] rfl h
  · have h := h.2 hc
    refine g_iload_n d_M_ring_5 1 rfl rfl ?_
    refine g_bipush d_M_ring_6 (x := 64) (by decide) ?_
    refine g_icmp_le (tgt := 13) d_M_ring_8 rfl (fun hc => ?_) (fun hc => ?_)
    · have h := h.1 hc
      refine g_aload_n d_M_ring_13 0 rfl rfl ?_
      refine g_getV (x := .int (σ.1 0 7)) d_M_ring_14 fl_M_16 (by decide) rfl rfl rfl ?_
      refine g_istore_n (L' := [(2, .int (σ.1 0 7)), (0, .ref (v.2.2 0)), (1, .int x1)]) d_M_ring_17 rfl (by decide) rfl ?_
      refine g_aload_n d_M_ring_18 1 rfl rfl ?_
      refine g_iload_n d_M_ring_19 2 rfl rfl ?_
      refine g_putI d_M_ring_20 fp_M_16 (by decide) rfl rfl ⟨rfl, rfl⟩ ?_
      refine g_iconst d_M_ring_23 (x := 0) (by decide) ?_
      refine g_istore_n (L' := [(3, .int 0), (2, .int (σ.1 0 7)), (0, .ref (v.2.2 0)), (1, .int x1)]) d_M_ring_24 rfl (by decide) rfl ?_
      exact g_sub [2, 1, 0] rfl h
    · have h := h.2 hc
      exact g_sub [] rfl h
set_option maxRecDepth 20000 in
set_option maxHeartbeats 1000000 in
theorem T_M_ring_11 {l : Launch} {v : gs_V} {n : Nat} {post : Int32 → gs_S → Prop} {σ : gs_S} (h : post ((-1)) σ) : G_M_ring_11 l v n post σ := by
  refine g_iconst d_M_ring_11 (x := (-1)) (by decide) ?_
  exact g_iret d_M_ring_12 rfl h
set_option maxRecDepth 20000 in
set_option maxHeartbeats 1000000 in
theorem T_M_ring_25 {l : Launch} {v : gs_V} {n : Nat} {post : Int32 → gs_S → Prop} {σ : gs_S} {x2 : Int32} {x3 : Int32} (h : ((64 ≤ x3 → post x2 (gs_pI σ 0 47 0)) ∧ (¬ 64 ≤ x3 → vp_in x3 64 ∧ G_M_ring_25 l v n post (gs_pI σ 3 x3.toNatClampNeg 0) x2 (x3 + 1)))) : G_M_ring_25 l v n post σ x2 x3 := by
  refine g_iload_n d_M_ring_25 2 rfl rfl ?_
  refine g_bipush d_M_ring_26 (x := 64) (by decide) ?_
  refine g_icmp_ge (tgt := 44) d_M_ring_28 rfl (fun hc => ?_) (fun hc => ?_)
  · have h := h.1 hc
    refine g_aload_n d_M_ring_44 0 rfl rfl ?_
    refine g_iconst d_M_ring_45 (x := 0) (by decide) ?_
    refine g_putI d_M_ring_46 fp_M_210 (by decide) rfl rfl ⟨rfl, rfl⟩ ?_
    refine g_iload_n d_M_ring_49 1 rfl rfl ?_
    exact g_iret d_M_ring_50 rfl h
  · have h := h.2 hc
    refine g_aload_n d_M_ring_31 0 rfl rfl ?_
    refine g_getV (x := .ref (v.2.2 3)) d_M_ring_32 fl_M_20 (by decide) rfl rfl rfl ?_
    refine g_iload_n d_M_ring_35 2 rfl rfl ?_
    refine g_iconst d_M_ring_36 (x := 0) (by decide) ?_
    have hi1 := h.1
    have h := h.2
    refine g_iast d_M_ring_37 (by decide) rfl hi1 ?_
    refine g_iinc (L' := [(3, .int (x3 + 1)), (0, .ref (v.2.2 0)), (2, .int x2)]) d_M_ring_38 2 rfl (by rfl) (by decide) rfl ?_
    refine g_goto (tgt := 25) d_M_ring_41 rfl ?_
    exact g_sub [1, 2, 0] rfl h
theorem E_M_ring {l : Launch} {v : gs_V} {n : Nat} {post : Int32 → gs_S → Prop} {σ : gs_S} {x1 : Int32} (h : G_M_ring_0 l v n post σ x1) : gM l v lyM 33 me_M_ring (n + 1) [.ref (v.2.2 0), .int x1] σ (qI v lyM 33 post) := gM_of (by decide +kernel) (Nat.le_of_ble_eq_true rfl) h
/-! LineRulesModel.rule -/
theorem d_M_rule_0 : decode me_M_rule.2.1 0 = .ok (.aload_n 0, 1) := by decide +kernel
theorem d_M_rule_1 : decode me_M_rule.2.1 1 = .ok (.invokevirtual 176, 3) := by decide +kernel
theorem d_M_rule_4 : decode me_M_rule.2.1 4 = .ok (.istore_n 1, 1) := by decide +kernel
theorem d_M_rule_5 : decode me_M_rule.2.1 5 = .ok (.iload_n 1, 1) := by decide +kernel
theorem d_M_rule_6 : decode me_M_rule.2.1 6 = .ok (.ifCond .lt 13, 3) := by decide +kernel
theorem d_M_rule_9 : decode me_M_rule.2.1 9 = .ok (.aload_n 0, 1) := by decide +kernel
theorem d_M_rule_10 : decode me_M_rule.2.1 10 = .ok (.iconst 0, 1) := by decide +kernel
theorem d_M_rule_11 : decode me_M_rule.2.1 11 = .ok (.putfield 112, 3) := by decide +kernel
theorem d_M_rule_14 : decode me_M_rule.2.1 14 = .ok (.bipush (-10), 2) := by decide +kernel
theorem d_M_rule_16 : decode me_M_rule.2.1 16 = .ok (.iload_n 1, 1) := by decide +kernel
theorem d_M_rule_17 : decode me_M_rule.2.1 17 = .ok (.isub, 1) := by decide +kernel
theorem d_M_rule_18 : decode me_M_rule.2.1 18 = .ok (.ireturn, 1) := by decide +kernel
theorem d_M_rule_19 : decode me_M_rule.2.1 19 = .ok (.aload_n 0, 1) := by decide +kernel
theorem d_M_rule_20 : decode me_M_rule.2.1 20 = .ok (.aload_n 0, 1) := by decide +kernel
theorem d_M_rule_21 : decode me_M_rule.2.1 21 = .ok (.getfield 122, 3) := by decide +kernel
theorem d_M_rule_24 : decode me_M_rule.2.1 24 = .ok (.putfield 179, 3) := by decide +kernel
theorem d_M_rule_27 : decode me_M_rule.2.1 27 = .ok (.aload_n 0, 1) := by decide +kernel
theorem d_M_rule_28 : decode me_M_rule.2.1 28 = .ok (.aload_n 0, 1) := by decide +kernel
theorem d_M_rule_29 : decode me_M_rule.2.1 29 = .ok (.getfield 144, 3) := by decide +kernel
theorem d_M_rule_32 : decode me_M_rule.2.1 32 = .ok (.putfield 182, 3) := by decide +kernel
theorem d_M_rule_35 : decode me_M_rule.2.1 35 = .ok (.aload_n 0, 1) := by decide +kernel
theorem d_M_rule_36 : decode me_M_rule.2.1 36 = .ok (.aload_n 0, 1) := by decide +kernel
theorem d_M_rule_37 : decode me_M_rule.2.1 37 = .ok (.getfield 179, 3) := by decide +kernel
theorem d_M_rule_40 : decode me_M_rule.2.1 40 = .ok (.aload_n 0, 1) := by decide +kernel
theorem d_M_rule_41 : decode me_M_rule.2.1 41 = .ok (.getfield 182, 3) := by decide +kernel
theorem d_M_rule_44 : decode me_M_rule.2.1 44 = .ok (.invokestatic 147, 3) := by decide +kernel
theorem d_M_rule_47 : decode me_M_rule.2.1 47 = .ok (.putfield 185, 3) := by decide +kernel
theorem d_M_rule_50 : decode me_M_rule.2.1 50 = .ok (.aload_n 0, 1) := by decide +kernel
theorem d_M_rule_51 : decode me_M_rule.2.1 51 = .ok (.aload_n 0, 1) := by decide +kernel
theorem d_M_rule_52 : decode me_M_rule.2.1 52 = .ok (.getfield 185, 3) := by decide +kernel
theorem d_M_rule_55 : decode me_M_rule.2.1 55 = .ok (.aload_n 0, 1) := by decide +kernel
theorem d_M_rule_56 : decode me_M_rule.2.1 56 = .ok (.getfield 179, 3) := by decide +kernel
theorem d_M_rule_59 : decode me_M_rule.2.1 59 = .ok (.idiv, 1) := by decide +kernel
theorem d_M_rule_60 : decode me_M_rule.2.1 60 = .ok (.putfield 188, 3) := by decide +kernel
theorem d_M_rule_63 : decode me_M_rule.2.1 63 = .ok (.iconst 0, 1) := by decide +kernel
theorem d_M_rule_64 : decode me_M_rule.2.1 64 = .ok (.istore_n 2, 1) := by decide +kernel
theorem d_M_rule_65 : decode me_M_rule.2.1 65 = .ok (.iload_n 2, 1) := by decide +kernel
theorem d_M_rule_66 : decode me_M_rule.2.1 66 = .ok (.aload_n 0, 1) := by decide +kernel
theorem d_M_rule_67 : decode me_M_rule.2.1 67 = .ok (.getfield 185, 3) := by decide +kernel
theorem d_M_rule_70 : decode me_M_rule.2.1 70 = .ok (.if_icmp .ge 77, 3) := by decide +kernel
theorem d_M_rule_73 : decode me_M_rule.2.1 73 = .ok (.aload_n 0, 1) := by decide +kernel
theorem d_M_rule_74 : decode me_M_rule.2.1 74 = .ok (.getfield 13, 3) := by decide +kernel
theorem d_M_rule_77 : decode me_M_rule.2.1 77 = .ok (.iload_n 2, 1) := by decide +kernel
theorem d_M_rule_78 : decode me_M_rule.2.1 78 = .ok (.aload_n 0, 1) := by decide +kernel
theorem d_M_rule_79 : decode me_M_rule.2.1 79 = .ok (.getfield 7, 3) := by decide +kernel
theorem d_M_rule_82 : decode me_M_rule.2.1 82 = .ok (.iconst 2, 1) := by decide +kernel
theorem d_M_rule_83 : decode me_M_rule.2.1 83 = .ok (.iaload, 1) := by decide +kernel
theorem d_M_rule_84 : decode me_M_rule.2.1 84 = .ok (.bipush 84, 2) := by decide +kernel
theorem d_M_rule_86 : decode me_M_rule.2.1 86 = .ok (.if_icmp .ne 17, 3) := by decide +kernel
theorem d_M_rule_89 : decode me_M_rule.2.1 89 = .ok (.aload_n 0, 1) := by decide +kernel
theorem d_M_rule_90 : decode me_M_rule.2.1 90 = .ok (.getfield 7, 3) := by decide +kernel
theorem d_M_rule_93 : decode me_M_rule.2.1 93 = .ok (.iconst 3, 1) := by decide +kernel
theorem d_M_rule_94 : decode me_M_rule.2.1 94 = .ok (.iload_n 2, 1) := by decide +kernel
theorem d_M_rule_95 : decode me_M_rule.2.1 95 = .ok (.iadd, 1) := by decide +kernel
theorem d_M_rule_96 : decode me_M_rule.2.1 96 = .ok (.iaload, 1) := by decide +kernel
theorem d_M_rule_97 : decode me_M_rule.2.1 97 = .ok (.bipush 48, 2) := by decide +kernel
theorem d_M_rule_99 : decode me_M_rule.2.1 99 = .ok (.isub, 1) := by decide +kernel
theorem d_M_rule_100 : decode me_M_rule.2.1 100 = .ok (.goto 40, 3) := by decide +kernel
theorem d_M_rule_103 : decode me_M_rule.2.1 103 = .ok (.aload_n 0, 1) := by decide +kernel
theorem d_M_rule_104 : decode me_M_rule.2.1 104 = .ok (.getfield 7, 3) := by decide +kernel
theorem d_M_rule_107 : decode me_M_rule.2.1 107 = .ok (.iconst 2, 1) := by decide +kernel
theorem d_M_rule_108 : decode me_M_rule.2.1 108 = .ok (.iaload, 1) := by decide +kernel
theorem d_M_rule_109 : decode me_M_rule.2.1 109 = .ok (.bipush 83, 2) := by decide +kernel
theorem d_M_rule_111 : decode me_M_rule.2.1 111 = .ok (.if_icmp .ne 24, 3) := by decide +kernel
theorem d_M_rule_114 : decode me_M_rule.2.1 114 = .ok (.aload_n 0, 1) := by decide +kernel
theorem d_M_rule_115 : decode me_M_rule.2.1 115 = .ok (.getfield 7, 3) := by decide +kernel
theorem d_M_rule_118 : decode me_M_rule.2.1 118 = .ok (.iconst 3, 1) := by decide +kernel
theorem d_M_rule_119 : decode me_M_rule.2.1 119 = .ok (.iload_n 2, 1) := by decide +kernel
theorem d_M_rule_120 : decode me_M_rule.2.1 120 = .ok (.aload_n 0, 1) := by decide +kernel
theorem d_M_rule_121 : decode me_M_rule.2.1 121 = .ok (.getfield 179, 3) := by decide +kernel
theorem d_M_rule_124 : decode me_M_rule.2.1 124 = .ok (.invokestatic 191, 3) := by decide +kernel
theorem d_M_rule_127 : decode me_M_rule.2.1 127 = .ok (.iadd, 1) := by decide +kernel
theorem d_M_rule_128 : decode me_M_rule.2.1 128 = .ok (.iaload, 1) := by decide +kernel
theorem d_M_rule_129 : decode me_M_rule.2.1 129 = .ok (.bipush 48, 2) := by decide +kernel
theorem d_M_rule_131 : decode me_M_rule.2.1 131 = .ok (.isub, 1) := by decide +kernel
theorem d_M_rule_132 : decode me_M_rule.2.1 132 = .ok (.goto 8, 3) := by decide +kernel
theorem d_M_rule_135 : decode me_M_rule.2.1 135 = .ok (.aload_n 0, 1) := by decide +kernel
theorem d_M_rule_136 : decode me_M_rule.2.1 136 = .ok (.iload_n 2, 1) := by decide +kernel
theorem d_M_rule_137 : decode me_M_rule.2.1 137 = .ok (.invokevirtual 173, 3) := by decide +kernel
theorem d_M_rule_140 : decode me_M_rule.2.1 140 = .ok (.iastore, 1) := by decide +kernel
theorem d_M_rule_141 : decode me_M_rule.2.1 141 = .ok (.iinc 2 1, 3) := by decide +kernel
theorem d_M_rule_144 : decode me_M_rule.2.1 144 = .ok (.goto (-79), 3) := by decide +kernel
theorem d_M_rule_147 : decode me_M_rule.2.1 147 = .ok (.aload_n 0, 1) := by decide +kernel
theorem d_M_rule_148 : decode me_M_rule.2.1 148 = .ok (.iconst 0, 1) := by decide +kernel
theorem d_M_rule_149 : decode me_M_rule.2.1 149 = .ok (.putfield 112, 3) := by decide +kernel
theorem d_M_rule_152 : decode me_M_rule.2.1 152 = .ok (.iconst 0, 1) := by decide +kernel
theorem d_M_rule_153 : decode me_M_rule.2.1 153 = .ok (.istore_n 2, 1) := by decide +kernel
theorem d_M_rule_154 : decode me_M_rule.2.1 154 = .ok (.iload_n 2, 1) := by decide +kernel
theorem d_M_rule_155 : decode me_M_rule.2.1 155 = .ok (.bipush 64, 2) := by decide +kernel
theorem d_M_rule_157 : decode me_M_rule.2.1 157 = .ok (.if_icmp .ge 16, 3) := by decide +kernel
theorem d_M_rule_160 : decode me_M_rule.2.1 160 = .ok (.aload_n 0, 1) := by decide +kernel
theorem d_M_rule_161 : decode me_M_rule.2.1 161 = .ok (.getfield 20, 3) := by decide +kernel
theorem d_M_rule_164 : decode me_M_rule.2.1 164 = .ok (.iload_n 2, 1) := by decide +kernel
theorem d_M_rule_165 : decode me_M_rule.2.1 165 = .ok (.iconst 0, 1) := by decide +kernel
theorem d_M_rule_166 : decode me_M_rule.2.1 166 = .ok (.iastore, 1) := by decide +kernel
theorem d_M_rule_167 : decode me_M_rule.2.1 167 = .ok (.iinc 2 1, 3) := by decide +kernel
theorem d_M_rule_170 : decode me_M_rule.2.1 170 = .ok (.goto (-16), 3) := by decide +kernel
theorem d_M_rule_173 : decode me_M_rule.2.1 173 = .ok (.aload_n 0, 1) := by decide +kernel
theorem d_M_rule_174 : decode me_M_rule.2.1 174 = .ok (.iconst 0, 1) := by decide +kernel
theorem d_M_rule_175 : decode me_M_rule.2.1 175 = .ok (.putfield 194, 3) := by decide +kernel
theorem d_M_rule_178 : decode me_M_rule.2.1 178 = .ok (.aload_n 0, 1) := by decide +kernel
theorem d_M_rule_179 : decode me_M_rule.2.1 179 = .ok (.iconst 0, 1) := by decide +kernel
theorem d_M_rule_180 : decode me_M_rule.2.1 180 = .ok (.putfield 197, 3) := by decide +kernel
theorem d_M_rule_183 : decode me_M_rule.2.1 183 = .ok (.aload_n 0, 1) := by decide +kernel
theorem d_M_rule_184 : decode me_M_rule.2.1 184 = .ok (.iconst 0, 1) := by decide +kernel
theorem d_M_rule_185 : decode me_M_rule.2.1 185 = .ok (.putfield 200, 3) := by decide +kernel
theorem d_M_rule_188 : decode me_M_rule.2.1 188 = .ok (.aload_n 0, 1) := by decide +kernel
theorem d_M_rule_189 : decode me_M_rule.2.1 189 = .ok (.iconst 0, 1) := by decide +kernel
theorem d_M_rule_190 : decode me_M_rule.2.1 190 = .ok (.putfield 204, 3) := by decide +kernel
theorem d_M_rule_193 : decode me_M_rule.2.1 193 = .ok (.aload_n 0, 1) := by decide +kernel
theorem d_M_rule_194 : decode me_M_rule.2.1 194 = .ok (.iconst 0, 1) := by decide +kernel
theorem d_M_rule_195 : decode me_M_rule.2.1 195 = .ok (.putfield 207, 3) := by decide +kernel
theorem d_M_rule_198 : decode me_M_rule.2.1 198 = .ok (.aload_n 0, 1) := by decide +kernel
theorem d_M_rule_199 : decode me_M_rule.2.1 199 = .ok (.iconst 0, 1) := by decide +kernel
theorem d_M_rule_200 : decode me_M_rule.2.1 200 = .ok (.putfield 210, 3) := by decide +kernel
theorem d_M_rule_203 : decode me_M_rule.2.1 203 = .ok (.aload_n 0, 1) := by decide +kernel
theorem d_M_rule_204 : decode me_M_rule.2.1 204 = .ok (.getfield 179, 3) := by decide +kernel
theorem d_M_rule_207 : decode me_M_rule.2.1 207 = .ok (.ireturn, 1) := by decide +kernel
abbrev G_M_rule_0 (l : Launch) (v : gs_V) (n : Nat) (post : Int32 → gs_S → Prop) (σ : gs_S) : Prop := gG l v lyM 33 me_M_rule n (qI v lyM 33 post) 0 [(0, .ref (v.2.2 0))] [] σ
abbrev G_M_rule_65 (l : Launch) (v : gs_V) (n : Nat) (post : Int32 → gs_S → Prop) (σ : gs_S) (x2 : Int32) : Prop := gG l v lyM 33 me_M_rule n (qI v lyM 33 post) 65 [(0, .ref (v.2.2 0)), (2, .int x2)] [] σ
abbrev G_M_rule_140 (l : Launch) (v : gs_V) (n : Nat) (post : Int32 → gs_S → Prop) (σ : gs_S) (x2 : Int32) (s0 : Int32) (s1 : Int32) : Prop := gG l v lyM 33 me_M_rule n (qI v lyM 33 post) 140 [(0, .ref (v.2.2 0)), (2, .int x2)] [.int s0, .int s1, .ref (v.2.2 2)] σ
abbrev G_M_rule_154 (l : Launch) (v : gs_V) (n : Nat) (post : Int32 → gs_S → Prop) (σ : gs_S) (x2 : Int32) : Prop := gG l v lyM 33 me_M_rule n (qI v lyM 33 post) 154 [(0, .ref (v.2.2 0)), (2, .int x2)] [] σ
set_option maxRecDepth 20000 in
set_option maxHeartbeats 1000000 in
theorem T_M_rule_0 {l : Launch} {v : gs_V} {n : Nat} {post : Int32 → gs_S → Prop} {σ : gs_S} (h : gM l v lyM 33 me_M_readAll n [.ref (v.2.2 0)] σ (qI v lyM 33 (fun r1 σ1 => ((r1 < 0 → gM l v lyM 33 me_M_powerOf n [.int (σ1.1 0 10), .int (σ1.1 0 11)] (gs_pI (gs_pI σ1 0 2 (σ1.1 0 10)) 0 3 (σ1.1 0 11)) (qI v lyM 33 (fun r2 σ2 => ¬ (σ2.1 0 2) = 0 ∧ G_M_rule_65 l v n post (gs_pI (gs_pI σ2 0 5 r2) 0 4 (r2 / (σ2.1 0 2))) 0))) ∧ (¬ r1 < 0 → post (((-10)) - r1) (gs_pI σ1 0 0 0)))))) : G_M_rule_0 l v n post σ := by
  refine g_aload_n d_M_rule_0 0 rfl rfl ?_
  refine g_callVi (av := []) (rest := []) d_M_rule_1 Y_M_readAll lk_M_176 (by decide) rfl rfl I_M_readAll rfl (Nat.le_of_ble_eq_true rfl) rfl h (fun r1 σ1 h => ?_)
  refine g_istore_n (L' := [(1, .int r1), (0, .ref (v.2.2 0))]) d_M_rule_4 rfl (by decide) rfl ?_
  refine g_iload_n d_M_rule_5 0 rfl rfl ?_
  refine g_if_lt (tgt := 19) d_M_rule_6 rfl (fun hc => ?_) (fun hc => ?_)
  · have h := h.1 hc
    refine g_aload_n d_M_rule_19 1 rfl rfl ?_
    refine g_aload_n d_M_rule_20 1 rfl rfl ?_
    refine g_getV (x := .int (σ1.1 0 10)) d_M_rule_21 fl_M_122 (by decide) rfl rfl rfl ?_
    refine g_putI d_M_rule_24 fp_M_179 (by decide) rfl rfl ⟨rfl, rfl⟩ ?_
    refine g_aload_n d_M_rule_27 1 rfl rfl ?_
    refine g_aload_n d_M_rule_28 1 rfl rfl ?_
    refine g_getV (x := .int (σ1.1 0 11)) d_M_rule_29 fl_M_144 (by decide) rfl rfl rfl ?_
    refine g_putI d_M_rule_32 fp_M_182 (by decide) rfl rfl ⟨rfl, rfl⟩ ?_
    refine g_aload_n d_M_rule_35 1 rfl rfl ?_
    refine g_aload_n d_M_rule_36 1 rfl rfl ?_
    refine g_getV (x := .int (σ1.1 0 10)) d_M_rule_37 fl_M_179 (by decide) rfl rfl rfl ?_
    refine g_aload_n d_M_rule_40 1 rfl rfl ?_
    refine g_getV (x := .int (σ1.1 0 11)) d_M_rule_41 fl_M_182 (by decide) rfl rfl rfl ?_
    refine g_callSi (av := [.int (σ1.1 0 10), .int (σ1.1 0 11)]) (rest := [.ref (v.2.2 0)]) d_M_rule_44 Y_M_powerOf lk_M_147 I_M_powerOf rfl (Nat.le_of_ble_eq_true rfl) rfl h (fun r2 σ2 h => ?_)
    refine g_putI d_M_rule_47 fp_M_185 (by decide) rfl rfl ⟨rfl, rfl⟩ ?_
    refine g_aload_n d_M_rule_50 1 rfl rfl ?_
    refine g_aload_n d_M_rule_51 1 rfl rfl ?_
    refine g_getV (x := .int r2) d_M_rule_52 fl_M_185 (by decide) rfl rfl rfl ?_
    refine g_aload_n d_M_rule_55 1 rfl rfl ?_
    refine g_getV (x := .int (σ2.1 0 2)) d_M_rule_56 fl_M_179 (by decide) rfl rfl rfl ?_
    refine g_idiv d_M_rule_59 h.1 ?_
    have h := h.2
    refine g_putI d_M_rule_60 fp_M_188 (by decide) rfl rfl ⟨rfl, rfl⟩ ?_
    refine g_iconst d_M_rule_63 (x := 0) (by decide) ?_
    refine g_istore_n (L' := [(2, .int 0), (1, .int r1), (0, .ref (v.2.2 0))]) d_M_rule_64 rfl (by decide) rfl ?_
    exact g_sub [2, 0] rfl h
  · have h := h.2 hc
    refine g_aload_n d_M_rule_9 1 rfl rfl ?_
    refine g_iconst d_M_rule_10 (x := 0) (by decide) ?_
    refine g_putI d_M_rule_11 fp_M_112 (by decide) rfl rfl ⟨rfl, rfl⟩ ?_
    refine g_bipush d_M_rule_14 (x := (-10)) (by decide) ?_
    refine g_iload_n d_M_rule_16 0 rfl rfl ?_
    refine g_isub d_M_rule_17 ?_
    exact g_iret d_M_rule_18 rfl h
set_option maxRecDepth 20000 in
set_option maxHeartbeats 1000000 in
theorem T_M_rule_65 {l : Launch} {v : gs_V} {n : Nat} {post : Int32 → gs_S → Prop} {σ : gs_S} {x2 : Int32} (h : (((σ.1 0 5) ≤ x2 → G_M_rule_154 l v n post (gs_pI σ 0 0 0) 0) ∧ (¬ (σ.1 0 5) ≤ x2 → ((¬ (σ.1 1 2) = 84 → ((¬ (σ.1 1 2) = 83 → gM l v lyM 33 me_M_work n [.ref (v.2.2 0), .int x2] σ (qI v lyM 33 (fun r1 σ1 => G_M_rule_140 l v n post σ1 x2 r1 x2))) ∧ ((σ.1 1 2) = 83 → gM l v lyM 33 me_M_digitSum n [.int x2, .int (σ.1 0 2)] σ (qI v lyM 33 (fun r2 σ2 => vp_in (3 + r2) 64 ∧ G_M_rule_140 l v n post σ2 x2 ((σ2.1 1 ((3 + r2).toNatClampNeg)) - 48) x2))))) ∧ ((σ.1 1 2) = 84 → vp_in (3 + x2) 64 ∧ G_M_rule_140 l v n post σ x2 ((σ.1 1 ((3 + x2).toNatClampNeg)) - 48) x2))))) : G_M_rule_65 l v n post σ x2 := by
  refine g_iload_n d_M_rule_65 1 rfl rfl ?_
  refine g_aload_n d_M_rule_66 0 rfl rfl ?_
  refine g_getV (x := .int (σ.1 0 5)) d_M_rule_67 fl_M_185 (by decide) rfl rfl rfl ?_
  refine g_icmp_ge (tgt := 147) d_M_rule_70 rfl (fun hc => ?_) (fun hc => ?_)
  · have h := h.1 hc
    refine g_aload_n d_M_rule_147 0 rfl rfl ?_
    refine g_iconst d_M_rule_148 (x := 0) (by decide) ?_
    refine g_putI d_M_rule_149 fp_M_112 (by decide) rfl rfl ⟨rfl, rfl⟩ ?_
    refine g_iconst d_M_rule_152 (x := 0) (by decide) ?_
    refine g_istore_n (L' := [(2, .int 0), (0, .ref (v.2.2 0))]) d_M_rule_153 rfl (by decide) rfl ?_
    exact g_sub [1, 0] rfl h
  · have h := h.2 hc
    refine g_aload_n d_M_rule_73 0 rfl rfl ?_
    refine g_getV (x := .ref (v.2.2 2)) d_M_rule_74 fl_M_13 (by decide) rfl rfl rfl ?_
    refine g_iload_n d_M_rule_77 1 rfl rfl ?_
    refine g_aload_n d_M_rule_78 0 rfl rfl ?_
    refine g_getV (x := .ref (v.2.2 1)) d_M_rule_79 fl_M_7 (by decide) rfl rfl rfl ?_
    refine g_iconst d_M_rule_82 (x := 2) (by decide) ?_
    refine g_iald (x := σ.1 1 2) d_M_rule_83 (by decide) rfl (g_lit (k := 2) (by decide) (by decide)) rfl ?_
    refine g_bipush d_M_rule_84 (x := 84) (by decide) ?_
    refine g_icmp_ne (tgt := 103) d_M_rule_86 rfl (fun hc => ?_) (fun hc => ?_)
    · have h := h.1 hc
      refine g_aload_n d_M_rule_103 0 rfl rfl ?_
      refine g_getV (x := .ref (v.2.2 1)) d_M_rule_104 fl_M_7 (by decide) rfl rfl rfl ?_
      refine g_iconst d_M_rule_107 (x := 2) (by decide) ?_
      refine g_iald (x := σ.1 1 2) d_M_rule_108 (by decide) rfl (g_lit (k := 2) (by decide) (by decide)) rfl ?_
      refine g_bipush d_M_rule_109 (x := 83) (by decide) ?_
      refine g_icmp_ne (tgt := 135) d_M_rule_111 rfl (fun hc => ?_) (fun hc => ?_)
      · have h := h.1 hc
        refine g_aload_n d_M_rule_135 0 rfl rfl ?_
        refine g_iload_n d_M_rule_136 1 rfl rfl ?_
        refine g_callVi (av := [.int x2]) (rest := [.int x2, .ref (v.2.2 2)]) d_M_rule_137 Y_M_work lk_M_173 (by decide) rfl rfl I_M_work rfl (Nat.le_of_ble_eq_true rfl) rfl h (fun r1 σ1 h => ?_)
        exact h
      · have h := h.2 hc
        refine g_aload_n d_M_rule_114 0 rfl rfl ?_
        refine g_getV (x := .ref (v.2.2 1)) d_M_rule_115 fl_M_7 (by decide) rfl rfl rfl ?_
        refine g_iconst d_M_rule_118 (x := 3) (by decide) ?_
        refine g_iload_n d_M_rule_119 1 rfl rfl ?_
        refine g_aload_n d_M_rule_120 0 rfl rfl ?_
        refine g_getV (x := .int (σ.1 0 2)) d_M_rule_121 fl_M_179 (by decide) rfl rfl rfl ?_
        refine g_callSi (av := [.int x2, .int (σ.1 0 2)]) (rest := [.int 3, .ref (v.2.2 1), .int x2, .ref (v.2.2 2)]) d_M_rule_124 Y_M_digitSum lk_M_191 I_M_digitSum rfl (Nat.le_of_ble_eq_true rfl) rfl h (fun r2 σ2 h => ?_)
        refine g_iadd d_M_rule_127 ?_
        have hi3 := h.1
        have h := h.2
        refine g_iald (x := σ2.1 1 ((3 + r2).toNatClampNeg)) d_M_rule_128 (by decide) rfl hi3 rfl ?_
        refine g_bipush d_M_rule_129 (x := 48) (by decide) ?_
        refine g_isub d_M_rule_131 ?_
        refine g_goto (tgt := 140) d_M_rule_132 rfl ?_
        exact h
    · have h := h.2 hc
      refine g_aload_n d_M_rule_89 0 rfl rfl ?_
      refine g_getV (x := .ref (v.2.2 1)) d_M_rule_90 fl_M_7 (by decide) rfl rfl rfl ?_
      refine g_iconst d_M_rule_93 (x := 3) (by decide) ?_
      refine g_iload_n d_M_rule_94 1 rfl rfl ?_
      refine g_iadd d_M_rule_95 ?_
      have hi4 := h.1
      have h := h.2
      refine g_iald (x := σ.1 1 ((3 + x2).toNatClampNeg)) d_M_rule_96 (by decide) rfl hi4 rfl ?_
      refine g_bipush d_M_rule_97 (x := 48) (by decide) ?_
      refine g_isub d_M_rule_99 ?_
      refine g_goto (tgt := 140) d_M_rule_100 rfl ?_
      exact h
set_option maxRecDepth 20000 in
set_option maxHeartbeats 1000000 in
theorem T_M_rule_140 {l : Launch} {v : gs_V} {n : Nat} {post : Int32 → gs_S → Prop} {σ : gs_S} {x2 : Int32} {s0 : Int32} {s1 : Int32} (h : vp_in s1 256 ∧ G_M_rule_65 l v n post (gs_pI σ 2 s1.toNatClampNeg s0) (x2 + 1)) : G_M_rule_140 l v n post σ x2 s0 s1 := by
  have hi1 := h.1
  have h := h.2
  refine g_iast d_M_rule_140 (by decide) rfl hi1 ?_
  refine g_iinc (L' := [(2, .int (x2 + 1)), (0, .ref (v.2.2 0))]) d_M_rule_141 1 rfl (by rfl) (by decide) rfl ?_
  refine g_goto (tgt := 65) d_M_rule_144 rfl ?_
  exact g_sub [1, 0] rfl h
set_option maxRecDepth 20000 in
set_option maxHeartbeats 1000000 in
theorem T_M_rule_154 {l : Launch} {v : gs_V} {n : Nat} {post : Int32 → gs_S → Prop} {σ : gs_S} {x2 : Int32} (h : ((64 ≤ x2 → post (σ.1 0 2) (gs_pI (gs_pI (gs_pI (gs_pI (gs_pI (gs_pI σ 0 28 0) 0 29 0) 0 31 0) 0 35 0) 0 41 0) 0 47 0)) ∧ (¬ 64 ≤ x2 → vp_in x2 64 ∧ G_M_rule_154 l v n post (gs_pI σ 3 x2.toNatClampNeg 0) (x2 + 1)))) : G_M_rule_154 l v n post σ x2 := by
  refine g_iload_n d_M_rule_154 1 rfl rfl ?_
  refine g_bipush d_M_rule_155 (x := 64) (by decide) ?_
  refine g_icmp_ge (tgt := 173) d_M_rule_157 rfl (fun hc => ?_) (fun hc => ?_)
  · have h := h.1 hc
    refine g_aload_n d_M_rule_173 0 rfl rfl ?_
    refine g_iconst d_M_rule_174 (x := 0) (by decide) ?_
    refine g_putI d_M_rule_175 fp_M_194 (by decide) rfl rfl ⟨rfl, rfl⟩ ?_
    refine g_aload_n d_M_rule_178 0 rfl rfl ?_
    refine g_iconst d_M_rule_179 (x := 0) (by decide) ?_
    refine g_putI d_M_rule_180 fp_M_197 (by decide) rfl rfl ⟨rfl, rfl⟩ ?_
    refine g_aload_n d_M_rule_183 0 rfl rfl ?_
    refine g_iconst d_M_rule_184 (x := 0) (by decide) ?_
    refine g_putI d_M_rule_185 fp_M_200 (by decide) rfl rfl ⟨rfl, rfl⟩ ?_
    refine g_aload_n d_M_rule_188 0 rfl rfl ?_
    refine g_iconst d_M_rule_189 (x := 0) (by decide) ?_
    refine g_putI d_M_rule_190 fp_M_204 (by decide) rfl rfl ⟨rfl, rfl⟩ ?_
    refine g_aload_n d_M_rule_193 0 rfl rfl ?_
    refine g_iconst d_M_rule_194 (x := 0) (by decide) ?_
    refine g_putI d_M_rule_195 fp_M_207 (by decide) rfl rfl ⟨rfl, rfl⟩ ?_
    refine g_aload_n d_M_rule_198 0 rfl rfl ?_
    refine g_iconst d_M_rule_199 (x := 0) (by decide) ?_
    refine g_putI d_M_rule_200 fp_M_210 (by decide) rfl rfl ⟨rfl, rfl⟩ ?_
    refine g_aload_n d_M_rule_203 0 rfl rfl ?_
    refine g_getV (x := .int (σ.1 0 2)) d_M_rule_204 fl_M_179 (by decide) rfl rfl rfl ?_
    exact g_iret d_M_rule_207 rfl h
  · have h := h.2 hc
    refine g_aload_n d_M_rule_160 0 rfl rfl ?_
    refine g_getV (x := .ref (v.2.2 3)) d_M_rule_161 fl_M_20 (by decide) rfl rfl rfl ?_
    refine g_iload_n d_M_rule_164 1 rfl rfl ?_
    refine g_iconst d_M_rule_165 (x := 0) (by decide) ?_
    have hi1 := h.1
    have h := h.2
    refine g_iast d_M_rule_166 (by decide) rfl hi1 ?_
    refine g_iinc (L' := [(2, .int (x2 + 1)), (0, .ref (v.2.2 0))]) d_M_rule_167 1 rfl (by rfl) (by decide) rfl ?_
    refine g_goto (tgt := 154) d_M_rule_170 rfl ?_
    exact g_sub [1, 0] rfl h
theorem E_M_rule {l : Launch} {v : gs_V} {n : Nat} {post : Int32 → gs_S → Prop} {σ : gs_S} (h : G_M_rule_0 l v n post σ) : gM l v lyM 33 me_M_rule (n + 1) [.ref (v.2.2 0)] σ (qI v lyM 33 post) := gM_of (by decide +kernel) (Nat.le_of_ble_eq_true rfl) h
/-! LineRulesModel.set -/
theorem d_M_set_0 : decode me_M_set.2.1 0 = .ok (.aload_n 0, 1) := by decide +kernel
theorem d_M_set_1 : decode me_M_set.2.1 1 = .ok (.getfield 179, 3) := by decide +kernel
theorem d_M_set_4 : decode me_M_set.2.1 4 = .ok (.ifCond .eq 27, 3) := by decide +kernel
theorem d_M_set_7 : decode me_M_set.2.1 7 = .ok (.iload_n 1, 1) := by decide +kernel
theorem d_M_set_8 : decode me_M_set.2.1 8 = .ok (.ifCond .lt 23, 3) := by decide +kernel
theorem d_M_set_11 : decode me_M_set.2.1 11 = .ok (.iload_n 1, 1) := by decide +kernel
theorem d_M_set_12 : decode me_M_set.2.1 12 = .ok (.aload_n 0, 1) := by decide +kernel
theorem d_M_set_13 : decode me_M_set.2.1 13 = .ok (.getfield 16, 3) := by decide +kernel
theorem d_M_set_16 : decode me_M_set.2.1 16 = .ok (.if_icmp .ge 15, 3) := by decide +kernel
theorem d_M_set_19 : decode me_M_set.2.1 19 = .ok (.iload_n 2, 1) := by decide +kernel
theorem d_M_set_20 : decode me_M_set.2.1 20 = .ok (.ifCond .lt 11, 3) := by decide +kernel
theorem d_M_set_23 : decode me_M_set.2.1 23 = .ok (.iload_n 2, 1) := by decide +kernel
theorem d_M_set_24 : decode me_M_set.2.1 24 = .ok (.aload_n 0, 1) := by decide +kernel
theorem d_M_set_25 : decode me_M_set.2.1 25 = .ok (.getfield 179, 3) := by decide +kernel
theorem d_M_set_28 : decode me_M_set.2.1 28 = .ok (.if_icmp .lt 5, 3) := by decide +kernel
theorem d_M_set_31 : decode me_M_set.2.1 31 = .ok (.iconst (-1), 1) := by decide +kernel
theorem d_M_set_32 : decode me_M_set.2.1 32 = .ok (.ireturn, 1) := by decide +kernel
theorem d_M_set_33 : decode me_M_set.2.1 33 = .ok (.aload_n 0, 1) := by decide +kernel
theorem d_M_set_34 : decode me_M_set.2.1 34 = .ok (.getfield 20, 3) := by decide +kernel
theorem d_M_set_37 : decode me_M_set.2.1 37 = .ok (.iload_n 1, 1) := by decide +kernel
theorem d_M_set_38 : decode me_M_set.2.1 38 = .ok (.iaload, 1) := by decide +kernel
theorem d_M_set_39 : decode me_M_set.2.1 39 = .ok (.istore_n 3, 1) := by decide +kernel
theorem d_M_set_40 : decode me_M_set.2.1 40 = .ok (.aload_n 0, 1) := by decide +kernel
theorem d_M_set_41 : decode me_M_set.2.1 41 = .ok (.getfield 20, 3) := by decide +kernel
theorem d_M_set_44 : decode me_M_set.2.1 44 = .ok (.iload_n 1, 1) := by decide +kernel
theorem d_M_set_45 : decode me_M_set.2.1 45 = .ok (.iload_n 2, 1) := by decide +kernel
theorem d_M_set_46 : decode me_M_set.2.1 46 = .ok (.iastore, 1) := by decide +kernel
theorem d_M_set_47 : decode me_M_set.2.1 47 = .ok (.aload_n 0, 1) := by decide +kernel
theorem d_M_set_48 : decode me_M_set.2.1 48 = .ok (.iconst 0, 1) := by decide +kernel
theorem d_M_set_49 : decode me_M_set.2.1 49 = .ok (.putfield 210, 3) := by decide +kernel
theorem d_M_set_52 : decode me_M_set.2.1 52 = .ok (.iload_n 3, 1) := by decide +kernel
theorem d_M_set_53 : decode me_M_set.2.1 53 = .ok (.ireturn, 1) := by decide +kernel
abbrev G_M_set_0 (l : Launch) (v : gs_V) (n : Nat) (post : Int32 → gs_S → Prop) (σ : gs_S) (x1 : Int32) (x2 : Int32) : Prop := gG l v lyM 33 me_M_set n (qI v lyM 33 post) 0 [(0, .ref (v.2.2 0)), (1, .int x1), (2, .int x2)] [] σ
abbrev G_M_set_31 (l : Launch) (v : gs_V) (n : Nat) (post : Int32 → gs_S → Prop) (σ : gs_S) : Prop := gG l v lyM 33 me_M_set n (qI v lyM 33 post) 31 [] [] σ
set_option maxRecDepth 20000 in
set_option maxHeartbeats 1000000 in
theorem T_M_set_0 {l : Launch} {v : gs_V} {n : Nat} {post : Int32 → gs_S → Prop} {σ : gs_S} {x1 : Int32} {x2 : Int32} (h : (((σ.1 0 2) = 0 → G_M_set_31 l v n post σ) ∧ (¬ (σ.1 0 2) = 0 → ((x1 < 0 → G_M_set_31 l v n post σ) ∧ (¬ x1 < 0 → (((σ.1 0 7) ≤ x1 → G_M_set_31 l v n post σ) ∧ (¬ (σ.1 0 7) ≤ x1 → ((x2 < 0 → G_M_set_31 l v n post σ) ∧ (¬ x2 < 0 → ((x2 < (σ.1 0 2) → vp_in x1 64 ∧ vp_in x1 64 ∧ post (σ.1 3 x1.toNatClampNeg) (gs_pI (gs_pI σ 3 x1.toNatClampNeg x2) 0 47 0)) ∧ (¬ x2 < (σ.1 0 2) → G_M_set_31 l v n post σ))))))))))) : G_M_set_0 l v n post σ x1 x2 := by
  refine g_aload_n d_M_set_0 0 rfl rfl ?_
  refine g_getV (x := .int (σ.1 0 2)) d_M_set_1 fl_M_179 (by decide) rfl rfl rfl ?_
  refine g_if_eq (tgt := 31) d_M_set_4 rfl (fun hc => ?_) (fun hc => ?_)
  · have h := h.1 hc
    exact g_sub [] rfl h
  · have h := h.2 hc
    refine g_iload_n d_M_set_7 1 rfl rfl ?_
    refine g_if_lt (tgt := 31) d_M_set_8 rfl (fun hc => ?_) (fun hc => ?_)
    · have h := h.1 hc
      exact g_sub [] rfl h
    · have h := h.2 hc
      refine g_iload_n d_M_set_11 1 rfl rfl ?_
      refine g_aload_n d_M_set_12 0 rfl rfl ?_
      refine g_getV (x := .int (σ.1 0 7)) d_M_set_13 fl_M_16 (by decide) rfl rfl rfl ?_
      refine g_icmp_ge (tgt := 31) d_M_set_16 rfl (fun hc => ?_) (fun hc => ?_)
      · have h := h.1 hc
        exact g_sub [] rfl h
      · have h := h.2 hc
        refine g_iload_n d_M_set_19 2 rfl rfl ?_
        refine g_if_lt (tgt := 31) d_M_set_20 rfl (fun hc => ?_) (fun hc => ?_)
        · have h := h.1 hc
          exact g_sub [] rfl h
        · have h := h.2 hc
          refine g_iload_n d_M_set_23 2 rfl rfl ?_
          refine g_aload_n d_M_set_24 0 rfl rfl ?_
          refine g_getV (x := .int (σ.1 0 2)) d_M_set_25 fl_M_179 (by decide) rfl rfl rfl ?_
          refine g_icmp_lt (tgt := 33) d_M_set_28 rfl (fun hc => ?_) (fun hc => ?_)
          · have h := h.1 hc
            refine g_aload_n d_M_set_33 0 rfl rfl ?_
            refine g_getV (x := .ref (v.2.2 3)) d_M_set_34 fl_M_20 (by decide) rfl rfl rfl ?_
            refine g_iload_n d_M_set_37 1 rfl rfl ?_
            have hi1 := h.1
            have h := h.2
            refine g_iald (x := σ.1 3 x1.toNatClampNeg) d_M_set_38 (by decide) rfl hi1 rfl ?_
            refine g_istore_n (L' := [(3, .int (σ.1 3 x1.toNatClampNeg)), (0, .ref (v.2.2 0)), (1, .int x1), (2, .int x2)]) d_M_set_39 rfl (by decide) rfl ?_
            refine g_aload_n d_M_set_40 1 rfl rfl ?_
            refine g_getV (x := .ref (v.2.2 3)) d_M_set_41 fl_M_20 (by decide) rfl rfl rfl ?_
            refine g_iload_n d_M_set_44 2 rfl rfl ?_
            refine g_iload_n d_M_set_45 3 rfl rfl ?_
            have hi2 := h.1
            have h := h.2
            refine g_iast d_M_set_46 (by decide) rfl hi2 ?_
            refine g_aload_n d_M_set_47 1 rfl rfl ?_
            refine g_iconst d_M_set_48 (x := 0) (by decide) ?_
            refine g_putI d_M_set_49 fp_M_210 (by decide) rfl rfl ⟨rfl, rfl⟩ ?_
            refine g_iload_n d_M_set_52 0 rfl rfl ?_
            exact g_iret d_M_set_53 rfl h
          · have h := h.2 hc
            exact g_sub [] rfl h
set_option maxRecDepth 20000 in
set_option maxHeartbeats 1000000 in
theorem T_M_set_31 {l : Launch} {v : gs_V} {n : Nat} {post : Int32 → gs_S → Prop} {σ : gs_S} (h : post ((-1)) σ) : G_M_set_31 l v n post σ := by
  refine g_iconst d_M_set_31 (x := (-1)) (by decide) ?_
  exact g_iret d_M_set_32 rfl h
theorem E_M_set {l : Launch} {v : gs_V} {n : Nat} {post : Int32 → gs_S → Prop} {σ : gs_S} {x1 : Int32} {x2 : Int32} (h : G_M_set_0 l v n post σ x1 x2) : gM l v lyM 33 me_M_set (n + 1) [.ref (v.2.2 0), .int x1, .int x2] σ (qI v lyM 33 post) := gM_of (by decide +kernel) (Nat.le_of_ble_eq_true rfl) h
/-! LineRulesModel.spell -/
theorem d_M_spell_0 : decode me_M_spell.2.1 0 = .ok (.iconst 1, 1) := by decide +kernel
theorem d_M_spell_1 : decode me_M_spell.2.1 1 = .ok (.istore_n 3, 1) := by decide +kernel
theorem d_M_spell_2 : decode me_M_spell.2.1 2 = .ok (.iload_n 1, 1) := by decide +kernel
theorem d_M_spell_3 : decode me_M_spell.2.1 3 = .ok (.istore 4, 2) := by decide +kernel
theorem d_M_spell_5 : decode me_M_spell.2.1 5 = .ok (.iload 4, 2) := by decide +kernel
theorem d_M_spell_7 : decode me_M_spell.2.1 7 = .ok (.ifCond .le 18, 3) := by decide +kernel
theorem d_M_spell_10 : decode me_M_spell.2.1 10 = .ok (.iinc 3 1, 3) := by decide +kernel
theorem d_M_spell_13 : decode me_M_spell.2.1 13 = .ok (.aload_n 0, 1) := by decide +kernel
theorem d_M_spell_14 : decode me_M_spell.2.1 14 = .ok (.getfield 94, 3) := by decide +kernel
theorem d_M_spell_17 : decode me_M_spell.2.1 17 = .ok (.iload 4, 2) := by decide +kernel
theorem d_M_spell_19 : decode me_M_spell.2.1 19 = .ok (.iaload, 1) := by decide +kernel
theorem d_M_spell_20 : decode me_M_spell.2.1 20 = .ok (.istore 4, 2) := by decide +kernel
theorem d_M_spell_22 : decode me_M_spell.2.1 22 = .ok (.goto (-17), 3) := by decide +kernel
theorem d_M_spell_25 : decode me_M_spell.2.1 25 = .ok (.aload_n 0, 1) := by decide +kernel
theorem d_M_spell_26 : decode me_M_spell.2.1 26 = .ok (.iload_n 3, 1) := by decide +kernel
theorem d_M_spell_27 : decode me_M_spell.2.1 27 = .ok (.putfield 270, 3) := by decide +kernel
theorem d_M_spell_30 : decode me_M_spell.2.1 30 = .ok (.aload_n 0, 1) := by decide +kernel
theorem d_M_spell_31 : decode me_M_spell.2.1 31 = .ok (.getfield 88, 3) := by decide +kernel
theorem d_M_spell_34 : decode me_M_spell.2.1 34 = .ok (.iload_n 3, 1) := by decide +kernel
theorem d_M_spell_35 : decode me_M_spell.2.1 35 = .ok (.iconst 1, 1) := by decide +kernel
theorem d_M_spell_36 : decode me_M_spell.2.1 36 = .ok (.isub, 1) := by decide +kernel
theorem d_M_spell_37 : decode me_M_spell.2.1 37 = .ok (.iload_n 2, 1) := by decide +kernel
theorem d_M_spell_38 : decode me_M_spell.2.1 38 = .ok (.iastore, 1) := by decide +kernel
theorem d_M_spell_39 : decode me_M_spell.2.1 39 = .ok (.iload_n 1, 1) := by decide +kernel
theorem d_M_spell_40 : decode me_M_spell.2.1 40 = .ok (.istore 4, 2) := by decide +kernel
theorem d_M_spell_42 : decode me_M_spell.2.1 42 = .ok (.iload_n 3, 1) := by decide +kernel
theorem d_M_spell_43 : decode me_M_spell.2.1 43 = .ok (.iconst 2, 1) := by decide +kernel
theorem d_M_spell_44 : decode me_M_spell.2.1 44 = .ok (.isub, 1) := by decide +kernel
theorem d_M_spell_45 : decode me_M_spell.2.1 45 = .ok (.istore 5, 2) := by decide +kernel
theorem d_M_spell_47 : decode me_M_spell.2.1 47 = .ok (.iload 5, 2) := by decide +kernel
theorem d_M_spell_49 : decode me_M_spell.2.1 49 = .ok (.ifCond .lt 32, 3) := by decide +kernel
theorem d_M_spell_52 : decode me_M_spell.2.1 52 = .ok (.aload_n 0, 1) := by decide +kernel
theorem d_M_spell_53 : decode me_M_spell.2.1 53 = .ok (.getfield 88, 3) := by decide +kernel
theorem d_M_spell_56 : decode me_M_spell.2.1 56 = .ok (.iload 5, 2) := by decide +kernel
theorem d_M_spell_58 : decode me_M_spell.2.1 58 = .ok (.aload_n 0, 1) := by decide +kernel
theorem d_M_spell_59 : decode me_M_spell.2.1 59 = .ok (.getfield 97, 3) := by decide +kernel
theorem d_M_spell_62 : decode me_M_spell.2.1 62 = .ok (.iload 4, 2) := by decide +kernel
theorem d_M_spell_64 : decode me_M_spell.2.1 64 = .ok (.iaload, 1) := by decide +kernel
theorem d_M_spell_65 : decode me_M_spell.2.1 65 = .ok (.iastore, 1) := by decide +kernel
theorem d_M_spell_66 : decode me_M_spell.2.1 66 = .ok (.aload_n 0, 1) := by decide +kernel
theorem d_M_spell_67 : decode me_M_spell.2.1 67 = .ok (.getfield 94, 3) := by decide +kernel
theorem d_M_spell_70 : decode me_M_spell.2.1 70 = .ok (.iload 4, 2) := by decide +kernel
theorem d_M_spell_72 : decode me_M_spell.2.1 72 = .ok (.iaload, 1) := by decide +kernel
theorem d_M_spell_73 : decode me_M_spell.2.1 73 = .ok (.istore 4, 2) := by decide +kernel
theorem d_M_spell_75 : decode me_M_spell.2.1 75 = .ok (.iinc 5 (-1), 3) := by decide +kernel
theorem d_M_spell_78 : decode me_M_spell.2.1 78 = .ok (.goto (-31), 3) := by decide +kernel
theorem d_M_spell_81 : decode me_M_spell.2.1 81 = .ok (.return_, 1) := by decide +kernel
abbrev G_M_spell_0 (l : Launch) (v : gs_V) (n : Nat) (post : gs_S → Prop) (σ : gs_S) (x1 : Int32) (x2 : Int32) : Prop := gG l v lyM 33 me_M_spell n (qV v lyM 33 post) 0 [(0, .ref (v.2.2 0)), (1, .int x1), (2, .int x2)] [] σ
abbrev G_M_spell_5 (l : Launch) (v : gs_V) (n : Nat) (post : gs_S → Prop) (σ : gs_S) (x1 : Int32) (x2 : Int32) (x3 : Int32) (x4 : Int32) : Prop := gG l v lyM 33 me_M_spell n (qV v lyM 33 post) 5 [(0, .ref (v.2.2 0)), (1, .int x1), (2, .int x2), (3, .int x3), (4, .int x4)] [] σ
abbrev G_M_spell_47 (l : Launch) (v : gs_V) (n : Nat) (post : gs_S → Prop) (σ : gs_S) (x4 : Int32) (x5 : Int32) : Prop := gG l v lyM 33 me_M_spell n (qV v lyM 33 post) 47 [(0, .ref (v.2.2 0)), (4, .int x4), (5, .int x5)] [] σ
set_option maxRecDepth 20000 in
set_option maxHeartbeats 1000000 in
theorem T_M_spell_0 {l : Launch} {v : gs_V} {n : Nat} {post : gs_S → Prop} {σ : gs_S} {x1 : Int32} {x2 : Int32} (h : G_M_spell_5 l v n post σ x1 x2 1 x1) : G_M_spell_0 l v n post σ x1 x2 := by
  refine g_iconst d_M_spell_0 (x := 1) (by decide) ?_
  refine g_istore_n (L' := [(3, .int 1), (0, .ref (v.2.2 0)), (1, .int x1), (2, .int x2)]) d_M_spell_1 rfl (by decide) rfl ?_
  refine g_iload_n d_M_spell_2 2 rfl rfl ?_
  refine g_istore (L' := [(4, .int x1), (3, .int 1), (0, .ref (v.2.2 0)), (1, .int x1), (2, .int x2)]) d_M_spell_3 (by decide) rfl ?_
  exact g_sub [2, 3, 4, 1, 0] rfl h
set_option maxRecDepth 20000 in
set_option maxHeartbeats 1000000 in
theorem T_M_spell_5 {l : Launch} {v : gs_V} {n : Nat} {post : gs_S → Prop} {σ : gs_S} {x1 : Int32} {x2 : Int32} {x3 : Int32} {x4 : Int32} (h : ((x4 ≤ 0 → vp_in (x3 - 1) 512 ∧ G_M_spell_47 l v n post (gs_pI (gs_pI σ 0 42 x3) 25 ((x3 - 1).toNatClampNeg) x2) x1 (x3 - 2)) ∧ (¬ x4 ≤ 0 → vp_in x4 500 ∧ G_M_spell_5 l v n post σ x1 x2 (x3 + 1) (σ.1 27 x4.toNatClampNeg)))) : G_M_spell_5 l v n post σ x1 x2 x3 x4 := by
  refine g_iload d_M_spell_5 4 rfl ?_
  refine g_if_le (tgt := 25) d_M_spell_7 rfl (fun hc => ?_) (fun hc => ?_)
  · have h := h.1 hc
    refine g_aload_n d_M_spell_25 0 rfl rfl ?_
    refine g_iload_n d_M_spell_26 3 rfl rfl ?_
    refine g_putI d_M_spell_27 fp_M_270 (by decide) rfl rfl ⟨rfl, rfl⟩ ?_
    refine g_aload_n d_M_spell_30 0 rfl rfl ?_
    refine g_getV (x := .ref (v.2.2 25)) d_M_spell_31 fl_M_88 (by decide) rfl rfl rfl ?_
    refine g_iload_n d_M_spell_34 3 rfl rfl ?_
    refine g_iconst d_M_spell_35 (x := 1) (by decide) ?_
    refine g_isub d_M_spell_36 ?_
    refine g_iload_n d_M_spell_37 2 rfl rfl ?_
    have hi1 := h.1
    have h := h.2
    refine g_iast d_M_spell_38 (by decide) rfl hi1 ?_
    refine g_iload_n d_M_spell_39 1 rfl rfl ?_
    refine g_istore (L' := [(4, .int x1), (0, .ref (v.2.2 0)), (1, .int x1), (2, .int x2), (3, .int x3)]) d_M_spell_40 (by decide) rfl ?_
    refine g_iload_n d_M_spell_42 4 rfl rfl ?_
    refine g_iconst d_M_spell_43 (x := 2) (by decide) ?_
    refine g_isub d_M_spell_44 ?_
    refine g_istore (L' := [(5, .int (x3 - 2)), (4, .int x1), (0, .ref (v.2.2 0)), (1, .int x1), (2, .int x2), (3, .int x3)]) d_M_spell_45 (by decide) rfl ?_
    exact g_sub [2, 1, 0] rfl h
  · have h := h.2 hc
    refine g_iinc (L' := [(3, .int (x3 + 1)), (0, .ref (v.2.2 0)), (1, .int x1), (2, .int x2), (4, .int x4)]) d_M_spell_10 3 rfl (by rfl) (by decide) rfl ?_
    refine g_aload_n d_M_spell_13 1 rfl rfl ?_
    refine g_getV (x := .ref (v.2.2 27)) d_M_spell_14 fl_M_94 (by decide) rfl rfl rfl ?_
    refine g_iload d_M_spell_17 4 rfl ?_
    have hi2 := h.1
    have h := h.2
    refine g_iald (x := σ.1 27 x4.toNatClampNeg) d_M_spell_19 (by decide) rfl hi2 rfl ?_
    refine g_istore (L' := [(4, .int (σ.1 27 x4.toNatClampNeg)), (3, .int (x3 + 1)), (0, .ref (v.2.2 0)), (1, .int x1), (2, .int x2)]) d_M_spell_20 (by decide) rfl ?_
    refine g_goto (tgt := 5) d_M_spell_22 rfl ?_
    exact g_sub [2, 3, 4, 1, 0] rfl h
set_option maxRecDepth 20000 in
set_option maxHeartbeats 1000000 in
theorem T_M_spell_47 {l : Launch} {v : gs_V} {n : Nat} {post : gs_S → Prop} {σ : gs_S} {x4 : Int32} {x5 : Int32} (h : ((x5 < 0 → post σ) ∧ (¬ x5 < 0 → vp_in x4 500 ∧ vp_in x5 512 ∧ vp_in x4 500 ∧ G_M_spell_47 l v n post (gs_pI σ 25 x5.toNatClampNeg (σ.1 28 x4.toNatClampNeg)) (σ.1 27 x4.toNatClampNeg) (x5 + (-1))))) : G_M_spell_47 l v n post σ x4 x5 := by
  refine g_iload d_M_spell_47 2 rfl ?_
  refine g_if_lt (tgt := 81) d_M_spell_49 rfl (fun hc => ?_) (fun hc => ?_)
  · have h := h.1 hc
    exact g_vret d_M_spell_81 rfl h
  · have h := h.2 hc
    refine g_aload_n d_M_spell_52 0 rfl rfl ?_
    refine g_getV (x := .ref (v.2.2 25)) d_M_spell_53 fl_M_88 (by decide) rfl rfl rfl ?_
    refine g_iload d_M_spell_56 2 rfl ?_
    refine g_aload_n d_M_spell_58 0 rfl rfl ?_
    refine g_getV (x := .ref (v.2.2 28)) d_M_spell_59 fl_M_97 (by decide) rfl rfl rfl ?_
    refine g_iload d_M_spell_62 1 rfl ?_
    have hi1 := h.1
    have h := h.2
    refine g_iald (x := σ.1 28 x4.toNatClampNeg) d_M_spell_64 (by decide) rfl hi1 rfl ?_
    have hi2 := h.1
    have h := h.2
    refine g_iast d_M_spell_65 (by decide) rfl hi2 ?_
    refine g_aload_n d_M_spell_66 0 rfl rfl ?_
    refine g_getV (x := .ref (v.2.2 27)) d_M_spell_67 fl_M_94 (by decide) rfl rfl rfl ?_
    refine g_iload d_M_spell_70 1 rfl ?_
    have hi3 := h.1
    have h := h.2
    refine g_iald (x := σ.1 27 x4.toNatClampNeg) d_M_spell_72 (by decide) rfl hi3 rfl ?_
    refine g_istore (L' := [(4, .int (σ.1 27 x4.toNatClampNeg)), (0, .ref (v.2.2 0)), (5, .int x5)]) d_M_spell_73 (by decide) rfl ?_
    refine g_iinc (L' := [(5, .int (x5 + (-1))), (4, .int (σ.1 27 x4.toNatClampNeg)), (0, .ref (v.2.2 0))]) d_M_spell_75 2 rfl (by rfl) (by decide) rfl ?_
    refine g_goto (tgt := 47) d_M_spell_78 rfl ?_
    exact g_sub [2, 1, 0] rfl h
theorem E_M_spell {l : Launch} {v : gs_V} {n : Nat} {post : gs_S → Prop} {σ : gs_S} {x1 : Int32} {x2 : Int32} (h : G_M_spell_0 l v n post σ x1 x2) : gM l v lyM 33 me_M_spell (n + 1) [.ref (v.2.2 0), .int x1, .int x2] σ (qV v lyM 33 post) := gM_of (by decide +kernel) (Nat.le_of_ble_eq_true rfl) h
/-! LineRulesModel.spellRing -/
theorem d_M_spellRing_0 : decode me_M_spellRing.2.1 0 = .ok (.iconst 0, 1) := by decide +kernel
theorem d_M_spellRing_1 : decode me_M_spellRing.2.1 1 = .ok (.istore_n 2, 1) := by decide +kernel
theorem d_M_spellRing_2 : decode me_M_spellRing.2.1 2 = .ok (.iload_n 2, 1) := by decide +kernel
theorem d_M_spellRing_3 : decode me_M_spellRing.2.1 3 = .ok (.aload_n 0, 1) := by decide +kernel
theorem d_M_spellRing_4 : decode me_M_spellRing.2.1 4 = .ok (.getfield 182, 3) := by decide +kernel
theorem d_M_spellRing_7 : decode me_M_spellRing.2.1 7 = .ok (.iconst 1, 1) := by decide +kernel
theorem d_M_spellRing_8 : decode me_M_spellRing.2.1 8 = .ok (.isub, 1) := by decide +kernel
theorem d_M_spellRing_9 : decode me_M_spellRing.2.1 9 = .ok (.if_icmp .ge 37, 3) := by decide +kernel
theorem d_M_spellRing_12 : decode me_M_spellRing.2.1 12 = .ok (.aload_n 0, 1) := by decide +kernel
theorem d_M_spellRing_13 : decode me_M_spellRing.2.1 13 = .ok (.getfield 100, 3) := by decide +kernel
theorem d_M_spellRing_16 : decode me_M_spellRing.2.1 16 = .ok (.iload_n 2, 1) := by decide +kernel
theorem d_M_spellRing_17 : decode me_M_spellRing.2.1 17 = .ok (.iload_n 1, 1) := by decide +kernel
theorem d_M_spellRing_18 : decode me_M_spellRing.2.1 18 = .ok (.aload_n 0, 1) := by decide +kernel
theorem d_M_spellRing_19 : decode me_M_spellRing.2.1 19 = .ok (.getfield 179, 3) := by decide +kernel
theorem d_M_spellRing_22 : decode me_M_spellRing.2.1 22 = .ok (.aload_n 0, 1) := by decide +kernel
theorem d_M_spellRing_23 : decode me_M_spellRing.2.1 23 = .ok (.getfield 182, 3) := by decide +kernel
theorem d_M_spellRing_26 : decode me_M_spellRing.2.1 26 = .ok (.iconst 2, 1) := by decide +kernel
theorem d_M_spellRing_27 : decode me_M_spellRing.2.1 27 = .ok (.isub, 1) := by decide +kernel
theorem d_M_spellRing_28 : decode me_M_spellRing.2.1 28 = .ok (.iload_n 2, 1) := by decide +kernel
theorem d_M_spellRing_29 : decode me_M_spellRing.2.1 29 = .ok (.isub, 1) := by decide +kernel
theorem d_M_spellRing_30 : decode me_M_spellRing.2.1 30 = .ok (.invokestatic 147, 3) := by decide +kernel
theorem d_M_spellRing_33 : decode me_M_spellRing.2.1 33 = .ok (.idiv, 1) := by decide +kernel
theorem d_M_spellRing_34 : decode me_M_spellRing.2.1 34 = .ok (.aload_n 0, 1) := by decide +kernel
theorem d_M_spellRing_35 : decode me_M_spellRing.2.1 35 = .ok (.getfield 179, 3) := by decide +kernel
theorem d_M_spellRing_38 : decode me_M_spellRing.2.1 38 = .ok (.irem, 1) := by decide +kernel
theorem d_M_spellRing_39 : decode me_M_spellRing.2.1 39 = .ok (.iastore, 1) := by decide +kernel
theorem d_M_spellRing_40 : decode me_M_spellRing.2.1 40 = .ok (.iinc 2 1, 3) := by decide +kernel
theorem d_M_spellRing_43 : decode me_M_spellRing.2.1 43 = .ok (.goto (-41), 3) := by decide +kernel
theorem d_M_spellRing_46 : decode me_M_spellRing.2.1 46 = .ok (.iload_n 1, 1) := by decide +kernel
theorem d_M_spellRing_47 : decode me_M_spellRing.2.1 47 = .ok (.istore_n 2, 1) := by decide +kernel
theorem d_M_spellRing_48 : decode me_M_spellRing.2.1 48 = .ok (.iconst 0, 1) := by decide +kernel
theorem d_M_spellRing_49 : decode me_M_spellRing.2.1 49 = .ok (.istore_n 3, 1) := by decide +kernel
theorem d_M_spellRing_50 : decode me_M_spellRing.2.1 50 = .ok (.iload_n 3, 1) := by decide +kernel
theorem d_M_spellRing_51 : decode me_M_spellRing.2.1 51 = .ok (.aload_n 0, 1) := by decide +kernel
theorem d_M_spellRing_52 : decode me_M_spellRing.2.1 52 = .ok (.getfield 16, 3) := by decide +kernel
theorem d_M_spellRing_55 : decode me_M_spellRing.2.1 55 = .ok (.if_icmp .ge 100, 3) := by decide +kernel
theorem d_M_spellRing_58 : decode me_M_spellRing.2.1 58 = .ok (.iconst 0, 1) := by decide +kernel
theorem d_M_spellRing_59 : decode me_M_spellRing.2.1 59 = .ok (.istore 4, 2) := by decide +kernel
theorem d_M_spellRing_61 : decode me_M_spellRing.2.1 61 = .ok (.aload_n 0, 1) := by decide +kernel
theorem d_M_spellRing_62 : decode me_M_spellRing.2.1 62 = .ok (.getfield 13, 3) := by decide +kernel
theorem d_M_spellRing_65 : decode me_M_spellRing.2.1 65 = .ok (.iload_n 2, 1) := by decide +kernel
theorem d_M_spellRing_66 : decode me_M_spellRing.2.1 66 = .ok (.aload_n 0, 1) := by decide +kernel
theorem d_M_spellRing_67 : decode me_M_spellRing.2.1 67 = .ok (.getfield 179, 3) := by decide +kernel
theorem d_M_spellRing_70 : decode me_M_spellRing.2.1 70 = .ok (.imul, 1) := by decide +kernel
theorem d_M_spellRing_71 : decode me_M_spellRing.2.1 71 = .ok (.iload 4, 2) := by decide +kernel
theorem d_M_spellRing_73 : decode me_M_spellRing.2.1 73 = .ok (.iadd, 1) := by decide +kernel
theorem d_M_spellRing_74 : decode me_M_spellRing.2.1 74 = .ok (.iaload, 1) := by decide +kernel
theorem d_M_spellRing_75 : decode me_M_spellRing.2.1 75 = .ok (.aload_n 0, 1) := by decide +kernel
theorem d_M_spellRing_76 : decode me_M_spellRing.2.1 76 = .ok (.iload_n 3, 1) := by decide +kernel
theorem d_M_spellRing_77 : decode me_M_spellRing.2.1 77 = .ok (.invokevirtual 288, 3) := by decide +kernel
theorem d_M_spellRing_80 : decode me_M_spellRing.2.1 80 = .ok (.if_icmp .ne 33, 3) := by decide +kernel
theorem d_M_spellRing_83 : decode me_M_spellRing.2.1 83 = .ok (.aload_n 0, 1) := by decide +kernel
theorem d_M_spellRing_84 : decode me_M_spellRing.2.1 84 = .ok (.getfield 109, 3) := by decide +kernel
theorem d_M_spellRing_87 : decode me_M_spellRing.2.1 87 = .ok (.iload_n 3, 1) := by decide +kernel
theorem d_M_spellRing_88 : decode me_M_spellRing.2.1 88 = .ok (.iconst 1, 1) := by decide +kernel
theorem d_M_spellRing_89 : decode me_M_spellRing.2.1 89 = .ok (.iadd, 1) := by decide +kernel
theorem d_M_spellRing_90 : decode me_M_spellRing.2.1 90 = .ok (.laload, 1) := by decide +kernel
theorem d_M_spellRing_91 : decode me_M_spellRing.2.1 91 = .ok (.iload_n 2, 1) := by decide +kernel
theorem d_M_spellRing_92 : decode me_M_spellRing.2.1 92 = .ok (.aload_n 0, 1) := by decide +kernel
theorem d_M_spellRing_93 : decode me_M_spellRing.2.1 93 = .ok (.getfield 179, 3) := by decide +kernel
theorem d_M_spellRing_96 : decode me_M_spellRing.2.1 96 = .ok (.imul, 1) := by decide +kernel
theorem d_M_spellRing_97 : decode me_M_spellRing.2.1 97 = .ok (.iload 4, 2) := by decide +kernel
theorem d_M_spellRing_99 : decode me_M_spellRing.2.1 99 = .ok (.iadd, 1) := by decide +kernel
theorem d_M_spellRing_100 : decode me_M_spellRing.2.1 100 = .ok (.aload_n 0, 1) := by decide +kernel
theorem d_M_spellRing_101 : decode me_M_spellRing.2.1 101 = .ok (.getfield 188, 3) := by decide +kernel
theorem d_M_spellRing_104 : decode me_M_spellRing.2.1 104 = .ok (.irem, 1) := by decide +kernel
theorem d_M_spellRing_105 : decode me_M_spellRing.2.1 105 = .ok (.lshr, 1) := by decide +kernel
theorem d_M_spellRing_106 : decode me_M_spellRing.2.1 106 = .ok (.lconst 1, 1) := by decide +kernel
theorem d_M_spellRing_107 : decode me_M_spellRing.2.1 107 = .ok (.land, 1) := by decide +kernel
theorem d_M_spellRing_108 : decode me_M_spellRing.2.1 108 = .ok (.lconst 0, 1) := by decide +kernel
theorem d_M_spellRing_109 : decode me_M_spellRing.2.1 109 = .ok (.lcmp, 1) := by decide +kernel
theorem d_M_spellRing_110 : decode me_M_spellRing.2.1 110 = .ok (.ifCond .ne 9, 3) := by decide +kernel
theorem d_M_spellRing_113 : decode me_M_spellRing.2.1 113 = .ok (.iinc 4 1, 3) := by decide +kernel
theorem d_M_spellRing_116 : decode me_M_spellRing.2.1 116 = .ok (.goto (-55), 3) := by decide +kernel
theorem d_M_spellRing_119 : decode me_M_spellRing.2.1 119 = .ok (.aload_n 0, 1) := by decide +kernel
theorem d_M_spellRing_120 : decode me_M_spellRing.2.1 120 = .ok (.getfield 100, 3) := by decide +kernel
theorem d_M_spellRing_123 : decode me_M_spellRing.2.1 123 = .ok (.aload_n 0, 1) := by decide +kernel
theorem d_M_spellRing_124 : decode me_M_spellRing.2.1 124 = .ok (.getfield 182, 3) := by decide +kernel
theorem d_M_spellRing_127 : decode me_M_spellRing.2.1 127 = .ok (.iconst 1, 1) := by decide +kernel
theorem d_M_spellRing_128 : decode me_M_spellRing.2.1 128 = .ok (.isub, 1) := by decide +kernel
theorem d_M_spellRing_129 : decode me_M_spellRing.2.1 129 = .ok (.iload_n 3, 1) := by decide +kernel
theorem d_M_spellRing_130 : decode me_M_spellRing.2.1 130 = .ok (.iadd, 1) := by decide +kernel
theorem d_M_spellRing_131 : decode me_M_spellRing.2.1 131 = .ok (.iload 4, 2) := by decide +kernel
theorem d_M_spellRing_133 : decode me_M_spellRing.2.1 133 = .ok (.iastore, 1) := by decide +kernel
theorem d_M_spellRing_134 : decode me_M_spellRing.2.1 134 = .ok (.iload_n 2, 1) := by decide +kernel
theorem d_M_spellRing_135 : decode me_M_spellRing.2.1 135 = .ok (.aload_n 0, 1) := by decide +kernel
theorem d_M_spellRing_136 : decode me_M_spellRing.2.1 136 = .ok (.getfield 179, 3) := by decide +kernel
theorem d_M_spellRing_139 : decode me_M_spellRing.2.1 139 = .ok (.imul, 1) := by decide +kernel
theorem d_M_spellRing_140 : decode me_M_spellRing.2.1 140 = .ok (.iload 4, 2) := by decide +kernel
theorem d_M_spellRing_142 : decode me_M_spellRing.2.1 142 = .ok (.iadd, 1) := by decide +kernel
theorem d_M_spellRing_143 : decode me_M_spellRing.2.1 143 = .ok (.aload_n 0, 1) := by decide +kernel
theorem d_M_spellRing_144 : decode me_M_spellRing.2.1 144 = .ok (.getfield 188, 3) := by decide +kernel
theorem d_M_spellRing_147 : decode me_M_spellRing.2.1 147 = .ok (.irem, 1) := by decide +kernel
theorem d_M_spellRing_148 : decode me_M_spellRing.2.1 148 = .ok (.istore_n 2, 1) := by decide +kernel
theorem d_M_spellRing_149 : decode me_M_spellRing.2.1 149 = .ok (.iinc 3 1, 3) := by decide +kernel
theorem d_M_spellRing_152 : decode me_M_spellRing.2.1 152 = .ok (.goto (-102), 3) := by decide +kernel
theorem d_M_spellRing_155 : decode me_M_spellRing.2.1 155 = .ok (.return_, 1) := by decide +kernel
abbrev G_M_spellRing_0 (l : Launch) (v : gs_V) (n : Nat) (post : gs_S → Prop) (σ : gs_S) (x1 : Int32) : Prop := gG l v lyM 33 me_M_spellRing n (qV v lyM 33 post) 0 [(0, .ref (v.2.2 0)), (1, .int x1)] [] σ
abbrev G_M_spellRing_2 (l : Launch) (v : gs_V) (n : Nat) (post : gs_S → Prop) (σ : gs_S) (x1 : Int32) (x2 : Int32) : Prop := gG l v lyM 33 me_M_spellRing n (qV v lyM 33 post) 2 [(0, .ref (v.2.2 0)), (1, .int x1), (2, .int x2)] [] σ
abbrev G_M_spellRing_50 (l : Launch) (v : gs_V) (n : Nat) (post : gs_S → Prop) (σ : gs_S) (x2 : Int32) (x3 : Int32) : Prop := gG l v lyM 33 me_M_spellRing n (qV v lyM 33 post) 50 [(0, .ref (v.2.2 0)), (2, .int x2), (3, .int x3)] [] σ
abbrev G_M_spellRing_61 (l : Launch) (v : gs_V) (n : Nat) (post : gs_S → Prop) (σ : gs_S) (x2 : Int32) (x3 : Int32) (x4 : Int32) : Prop := gG l v lyM 33 me_M_spellRing n (qV v lyM 33 post) 61 [(0, .ref (v.2.2 0)), (2, .int x2), (3, .int x3), (4, .int x4)] [] σ
abbrev G_M_spellRing_113 (l : Launch) (v : gs_V) (n : Nat) (post : gs_S → Prop) (σ : gs_S) (x2 : Int32) (x3 : Int32) (x4 : Int32) : Prop := gG l v lyM 33 me_M_spellRing n (qV v lyM 33 post) 113 [(0, .ref (v.2.2 0)), (2, .int x2), (3, .int x3), (4, .int x4)] [] σ
set_option maxRecDepth 20000 in
set_option maxHeartbeats 1000000 in
theorem T_M_spellRing_0 {l : Launch} {v : gs_V} {n : Nat} {post : gs_S → Prop} {σ : gs_S} {x1 : Int32} (h : G_M_spellRing_2 l v n post σ x1 0) : G_M_spellRing_0 l v n post σ x1 := by
  refine g_iconst d_M_spellRing_0 (x := 0) (by decide) ?_
  refine g_istore_n (L' := [(2, .int 0), (0, .ref (v.2.2 0)), (1, .int x1)]) d_M_spellRing_1 rfl (by decide) rfl ?_
  exact g_sub [1, 2, 0] rfl h
set_option maxRecDepth 20000 in
set_option maxHeartbeats 1000000 in
theorem T_M_spellRing_2 {l : Launch} {v : gs_V} {n : Nat} {post : gs_S → Prop} {σ : gs_S} {x1 : Int32} {x2 : Int32} (h : ((((σ.1 0 3) - 1) ≤ x2 → G_M_spellRing_50 l v n post σ x1 0) ∧ (¬ ((σ.1 0 3) - 1) ≤ x2 → gM l v lyM 33 me_M_powerOf n [.int (σ.1 0 2), .int (((σ.1 0 3) - 2) - x2)] σ (qI v lyM 33 (fun r1 σ1 => ¬ r1 = 0 ∧ ¬ (σ1.1 0 2) = 0 ∧ vp_in x2 68 ∧ G_M_spellRing_2 l v n post (gs_pI σ1 29 x2.toNatClampNeg (jR (x1 / r1) (σ1.1 0 2))) x1 (x2 + 1)))))) : G_M_spellRing_2 l v n post σ x1 x2 := by
  refine g_iload_n d_M_spellRing_2 2 rfl rfl ?_
  refine g_aload_n d_M_spellRing_3 0 rfl rfl ?_
  refine g_getV (x := .int (σ.1 0 3)) d_M_spellRing_4 fl_M_182 (by decide) rfl rfl rfl ?_
  refine g_iconst d_M_spellRing_7 (x := 1) (by decide) ?_
  refine g_isub d_M_spellRing_8 ?_
  refine g_icmp_ge (tgt := 46) d_M_spellRing_9 rfl (fun hc => ?_) (fun hc => ?_)
  · have h := h.1 hc
    refine g_iload_n d_M_spellRing_46 1 rfl rfl ?_
    refine g_istore_n (L' := [(2, .int x1), (0, .ref (v.2.2 0)), (1, .int x1)]) d_M_spellRing_47 rfl (by decide) rfl ?_
    refine g_iconst d_M_spellRing_48 (x := 0) (by decide) ?_
    refine g_istore_n (L' := [(3, .int 0), (2, .int x1), (0, .ref (v.2.2 0)), (1, .int x1)]) d_M_spellRing_49 rfl (by decide) rfl ?_
    exact g_sub [2, 1, 0] rfl h
  · have h := h.2 hc
    refine g_aload_n d_M_spellRing_12 0 rfl rfl ?_
    refine g_getV (x := .ref (v.2.2 29)) d_M_spellRing_13 fl_M_100 (by decide) rfl rfl rfl ?_
    refine g_iload_n d_M_spellRing_16 2 rfl rfl ?_
    refine g_iload_n d_M_spellRing_17 1 rfl rfl ?_
    refine g_aload_n d_M_spellRing_18 0 rfl rfl ?_
    refine g_getV (x := .int (σ.1 0 2)) d_M_spellRing_19 fl_M_179 (by decide) rfl rfl rfl ?_
    refine g_aload_n d_M_spellRing_22 0 rfl rfl ?_
    refine g_getV (x := .int (σ.1 0 3)) d_M_spellRing_23 fl_M_182 (by decide) rfl rfl rfl ?_
    refine g_iconst d_M_spellRing_26 (x := 2) (by decide) ?_
    refine g_isub d_M_spellRing_27 ?_
    refine g_iload_n d_M_spellRing_28 2 rfl rfl ?_
    refine g_isub d_M_spellRing_29 ?_
    refine g_callSi (av := [.int (σ.1 0 2), .int (((σ.1 0 3) - 2) - x2)]) (rest := [.int x1, .int x2, .ref (v.2.2 29)]) d_M_spellRing_30 Y_M_powerOf lk_M_147 I_M_powerOf rfl (Nat.le_of_ble_eq_true rfl) rfl h (fun r1 σ1 h => ?_)
    refine g_idiv d_M_spellRing_33 h.1 ?_
    have h := h.2
    refine g_aload_n d_M_spellRing_34 0 rfl rfl ?_
    refine g_getV (x := .int (σ1.1 0 2)) d_M_spellRing_35 fl_M_179 (by decide) rfl rfl rfl ?_
    refine g_irem d_M_spellRing_38 h.1 ?_
    have h := h.2
    have hi2 := h.1
    have h := h.2
    refine g_iast d_M_spellRing_39 (by decide) rfl hi2 ?_
    refine g_iinc (L' := [(2, .int (x2 + 1)), (0, .ref (v.2.2 0)), (1, .int x1)]) d_M_spellRing_40 2 rfl (by rfl) (by decide) rfl ?_
    refine g_goto (tgt := 2) d_M_spellRing_43 rfl ?_
    exact g_sub [1, 2, 0] rfl h
set_option maxRecDepth 20000 in
set_option maxHeartbeats 1000000 in
theorem T_M_spellRing_50 {l : Launch} {v : gs_V} {n : Nat} {post : gs_S → Prop} {σ : gs_S} {x2 : Int32} {x3 : Int32} (h : (((σ.1 0 7) ≤ x3 → post σ) ∧ (¬ (σ.1 0 7) ≤ x3 → G_M_spellRing_61 l v n post σ x2 x3 0))) : G_M_spellRing_50 l v n post σ x2 x3 := by
  refine g_iload_n d_M_spellRing_50 2 rfl rfl ?_
  refine g_aload_n d_M_spellRing_51 0 rfl rfl ?_
  refine g_getV (x := .int (σ.1 0 7)) d_M_spellRing_52 fl_M_16 (by decide) rfl rfl rfl ?_
  refine g_icmp_ge (tgt := 155) d_M_spellRing_55 rfl (fun hc => ?_) (fun hc => ?_)
  · have h := h.1 hc
    exact g_vret d_M_spellRing_155 rfl h
  · have h := h.2 hc
    refine g_iconst d_M_spellRing_58 (x := 0) (by decide) ?_
    refine g_istore (L' := [(4, .int 0), (0, .ref (v.2.2 0)), (2, .int x2), (3, .int x3)]) d_M_spellRing_59 (by decide) rfl ?_
    exact g_sub [1, 2, 3, 0] rfl h
set_option maxRecDepth 20000 in
set_option maxHeartbeats 1000000 in
theorem T_M_spellRing_61 {l : Launch} {v : gs_V} {n : Nat} {post : gs_S → Prop} {σ : gs_S} {x2 : Int32} {x3 : Int32} {x4 : Int32} (h : vp_in ((x2 * (σ.1 0 2)) + x4) 256 ∧ gM l v lyM 33 me_M_wanted n [.ref (v.2.2 0), .int x3] σ (qI v lyM 33 (fun r2 σ2 => ((¬ (σ.1 2 (((x2 * (σ.1 0 2)) + x4).toNatClampNeg)) = r2 → G_M_spellRing_113 l v n post σ2 x2 x3 x4) ∧ ((σ.1 2 (((x2 * (σ.1 0 2)) + x4).toNatClampNeg)) = r2 → vp_in (x3 + 1) 65 ∧ ¬ (σ2.1 0 4) = 0 ∧ ((¬ ((jA (σ2.2.1 32 ((x3 + 1).toNatClampNeg)) (jR ((x2 * (σ2.1 0 2)) + x4) (σ2.1 0 4))) &&& 1) = 0 → vp_in (((σ2.1 0 3) - 1) + x3) 68 ∧ ¬ (σ2.1 0 4) = 0 ∧ G_M_spellRing_50 l v n post (gs_pI σ2 29 ((((σ2.1 0 3) - 1) + x3).toNatClampNeg) x4) (jR ((x2 * (σ2.1 0 2)) + x4) (σ2.1 0 4)) (x3 + 1)) ∧ (((jA (σ2.2.1 32 ((x3 + 1).toNatClampNeg)) (jR ((x2 * (σ2.1 0 2)) + x4) (σ2.1 0 4))) &&& 1) = 0 → G_M_spellRing_113 l v n post σ2 x2 x3 x4))))))) : G_M_spellRing_61 l v n post σ x2 x3 x4 := by
  refine g_aload_n d_M_spellRing_61 0 rfl rfl ?_
  refine g_getV (x := .ref (v.2.2 2)) d_M_spellRing_62 fl_M_13 (by decide) rfl rfl rfl ?_
  refine g_iload_n d_M_spellRing_65 1 rfl rfl ?_
  refine g_aload_n d_M_spellRing_66 0 rfl rfl ?_
  refine g_getV (x := .int (σ.1 0 2)) d_M_spellRing_67 fl_M_179 (by decide) rfl rfl rfl ?_
  refine g_imul d_M_spellRing_70 ?_
  refine g_iload d_M_spellRing_71 3 rfl ?_
  refine g_iadd d_M_spellRing_73 ?_
  have hi1 := h.1
  have h := h.2
  refine g_iald (x := σ.1 2 (((x2 * (σ.1 0 2)) + x4).toNatClampNeg)) d_M_spellRing_74 (by decide) rfl hi1 rfl ?_
  refine g_aload_n d_M_spellRing_75 0 rfl rfl ?_
  refine g_iload_n d_M_spellRing_76 2 rfl rfl ?_
  refine g_callVi (av := [.int x3]) (rest := [.int (σ.1 2 (((x2 * (σ.1 0 2)) + x4).toNatClampNeg))]) d_M_spellRing_77 Y_M_wanted lk_M_288 (by decide) rfl rfl I_M_wanted rfl (Nat.le_of_ble_eq_true rfl) rfl h (fun r2 σ2 h => ?_)
  refine g_icmp_ne (tgt := 113) d_M_spellRing_80 rfl (fun hc => ?_) (fun hc => ?_)
  · have h := h.1 hc
    exact h
  · have h := h.2 hc
    refine g_aload_n d_M_spellRing_83 0 rfl rfl ?_
    refine g_getV (x := .ref (v.2.2 32)) d_M_spellRing_84 fl_M_109 (by decide) rfl rfl rfl ?_
    refine g_iload_n d_M_spellRing_87 2 rfl rfl ?_
    refine g_iconst d_M_spellRing_88 (x := 1) (by decide) ?_
    refine g_iadd d_M_spellRing_89 ?_
    have hi3 := h.1
    have h := h.2
    refine g_lald (x := σ2.2.1 32 ((x3 + 1).toNatClampNeg)) d_M_spellRing_90 (by decide) rfl hi3 rfl ?_
    refine g_iload_n d_M_spellRing_91 1 rfl rfl ?_
    refine g_aload_n d_M_spellRing_92 0 rfl rfl ?_
    refine g_getV (x := .int (σ2.1 0 2)) d_M_spellRing_93 fl_M_179 (by decide) rfl rfl rfl ?_
    refine g_imul d_M_spellRing_96 ?_
    refine g_iload d_M_spellRing_97 3 rfl ?_
    refine g_iadd d_M_spellRing_99 ?_
    refine g_aload_n d_M_spellRing_100 0 rfl rfl ?_
    refine g_getV (x := .int (σ2.1 0 4)) d_M_spellRing_101 fl_M_188 (by decide) rfl rfl rfl ?_
    refine g_irem d_M_spellRing_104 h.1 ?_
    have h := h.2
    refine g_lshr d_M_spellRing_105 ?_
    refine g_lconst d_M_spellRing_106 (x := 1) (by decide) ?_
    refine g_land d_M_spellRing_107 ?_
    refine g_lconst d_M_spellRing_108 (x := 0) (by decide) ?_
    refine g_lcmp_ne (tgt := 119) d_M_spellRing_109 d_M_spellRing_110 rfl (fun hc => ?_) (fun hc => ?_)
    · have h := h.1 hc
      refine g_aload_n d_M_spellRing_119 0 rfl rfl ?_
      refine g_getV (x := .ref (v.2.2 29)) d_M_spellRing_120 fl_M_100 (by decide) rfl rfl rfl ?_
      refine g_aload_n d_M_spellRing_123 0 rfl rfl ?_
      refine g_getV (x := .int (σ2.1 0 3)) d_M_spellRing_124 fl_M_182 (by decide) rfl rfl rfl ?_
      refine g_iconst d_M_spellRing_127 (x := 1) (by decide) ?_
      refine g_isub d_M_spellRing_128 ?_
      refine g_iload_n d_M_spellRing_129 2 rfl rfl ?_
      refine g_iadd d_M_spellRing_130 ?_
      refine g_iload d_M_spellRing_131 3 rfl ?_
      have hi4 := h.1
      have h := h.2
      refine g_iast d_M_spellRing_133 (by decide) rfl hi4 ?_
      refine g_iload_n d_M_spellRing_134 1 rfl rfl ?_
      refine g_aload_n d_M_spellRing_135 0 rfl rfl ?_
      refine g_getV (x := .int (σ2.1 0 2)) d_M_spellRing_136 fl_M_179 (by decide) rfl rfl rfl ?_
      refine g_imul d_M_spellRing_139 ?_
      refine g_iload d_M_spellRing_140 3 rfl ?_
      refine g_iadd d_M_spellRing_142 ?_
      refine g_aload_n d_M_spellRing_143 0 rfl rfl ?_
      refine g_getV (x := .int (σ2.1 0 4)) d_M_spellRing_144 fl_M_188 (by decide) rfl rfl rfl ?_
      refine g_irem d_M_spellRing_147 h.1 ?_
      have h := h.2
      refine g_istore_n (L' := [(2, .int (jR ((x2 * (σ2.1 0 2)) + x4) (σ2.1 0 4))), (0, .ref (v.2.2 0)), (3, .int x3), (4, .int x4)]) d_M_spellRing_148 rfl (by decide) rfl ?_
      refine g_iinc (L' := [(3, .int (x3 + 1)), (2, .int (jR ((x2 * (σ2.1 0 2)) + x4) (σ2.1 0 4))), (0, .ref (v.2.2 0)), (4, .int x4)]) d_M_spellRing_149 2 rfl (by rfl) (by decide) rfl ?_
      refine g_goto (tgt := 50) d_M_spellRing_152 rfl ?_
      exact g_sub [2, 1, 0] rfl h
    · have h := h.2 hc
      exact h
set_option maxRecDepth 20000 in
set_option maxHeartbeats 1000000 in
theorem T_M_spellRing_113 {l : Launch} {v : gs_V} {n : Nat} {post : gs_S → Prop} {σ : gs_S} {x2 : Int32} {x3 : Int32} {x4 : Int32} (h : G_M_spellRing_61 l v n post σ x2 x3 (x4 + 1)) : G_M_spellRing_113 l v n post σ x2 x3 x4 := by
  refine g_iinc (L' := [(4, .int (x4 + 1)), (0, .ref (v.2.2 0)), (2, .int x2), (3, .int x3)]) d_M_spellRing_113 3 rfl (by rfl) (by decide) rfl ?_
  refine g_goto (tgt := 61) d_M_spellRing_116 rfl ?_
  exact g_sub [1, 2, 3, 0] rfl h
theorem E_M_spellRing {l : Launch} {v : gs_V} {n : Nat} {post : gs_S → Prop} {σ : gs_S} {x1 : Int32} (h : G_M_spellRing_0 l v n post σ x1) : gM l v lyM 33 me_M_spellRing (n + 1) [.ref (v.2.2 0), .int x1] σ (qV v lyM 33 post) := gM_of (by decide +kernel) (Nat.le_of_ble_eq_true rfl) h
/-! LineRulesModel.step -/
theorem d_M_step_0 : decode me_M_step.2.1 0 = .ok (.aload_n 0, 1) := by decide +kernel
theorem d_M_step_1 : decode me_M_step.2.1 1 = .ok (.getfield 179, 3) := by decide +kernel
theorem d_M_step_4 : decode me_M_step.2.1 4 = .ok (.ifCond .eq 14, 3) := by decide +kernel
theorem d_M_step_7 : decode me_M_step.2.1 7 = .ok (.iload_n 1, 1) := by decide +kernel
theorem d_M_step_8 : decode me_M_step.2.1 8 = .ok (.ifCond .lt 10, 3) := by decide +kernel
theorem d_M_step_11 : decode me_M_step.2.1 11 = .ok (.iload_n 1, 1) := by decide +kernel
theorem d_M_step_12 : decode me_M_step.2.1 12 = .ok (.sipush 200, 3) := by decide +kernel
theorem d_M_step_15 : decode me_M_step.2.1 15 = .ok (.if_icmp .le 5, 3) := by decide +kernel
theorem d_M_step_18 : decode me_M_step.2.1 18 = .ok (.iconst (-1), 1) := by decide +kernel
theorem d_M_step_19 : decode me_M_step.2.1 19 = .ok (.ireturn, 1) := by decide +kernel
theorem d_M_step_20 : decode me_M_step.2.1 20 = .ok (.iconst 0, 1) := by decide +kernel
theorem d_M_step_21 : decode me_M_step.2.1 21 = .ok (.istore_n 2, 1) := by decide +kernel
theorem d_M_step_22 : decode me_M_step.2.1 22 = .ok (.iload_n 2, 1) := by decide +kernel
theorem d_M_step_23 : decode me_M_step.2.1 23 = .ok (.aload_n 0, 1) := by decide +kernel
theorem d_M_step_24 : decode me_M_step.2.1 24 = .ok (.getfield 16, 3) := by decide +kernel
theorem d_M_step_27 : decode me_M_step.2.1 27 = .ok (.if_icmp .ge 21, 3) := by decide +kernel
theorem d_M_step_30 : decode me_M_step.2.1 30 = .ok (.aload_n 0, 1) := by decide +kernel
theorem d_M_step_31 : decode me_M_step.2.1 31 = .ok (.getfield 100, 3) := by decide +kernel
theorem d_M_step_34 : decode me_M_step.2.1 34 = .ok (.iload_n 2, 1) := by decide +kernel
theorem d_M_step_35 : decode me_M_step.2.1 35 = .ok (.aload_n 0, 1) := by decide +kernel
theorem d_M_step_36 : decode me_M_step.2.1 36 = .ok (.getfield 20, 3) := by decide +kernel
theorem d_M_step_39 : decode me_M_step.2.1 39 = .ok (.iload_n 2, 1) := by decide +kernel
theorem d_M_step_40 : decode me_M_step.2.1 40 = .ok (.iaload, 1) := by decide +kernel
theorem d_M_step_41 : decode me_M_step.2.1 41 = .ok (.iastore, 1) := by decide +kernel
theorem d_M_step_42 : decode me_M_step.2.1 42 = .ok (.iinc 2 1, 3) := by decide +kernel
theorem d_M_step_45 : decode me_M_step.2.1 45 = .ok (.goto (-23), 3) := by decide +kernel
theorem d_M_step_48 : decode me_M_step.2.1 48 = .ok (.iconst 0, 1) := by decide +kernel
theorem d_M_step_49 : decode me_M_step.2.1 49 = .ok (.istore_n 2, 1) := by decide +kernel
theorem d_M_step_50 : decode me_M_step.2.1 50 = .ok (.iload_n 2, 1) := by decide +kernel
theorem d_M_step_51 : decode me_M_step.2.1 51 = .ok (.iload_n 1, 1) := by decide +kernel
theorem d_M_step_52 : decode me_M_step.2.1 52 = .ok (.if_icmp .ge 13, 3) := by decide +kernel
theorem d_M_step_55 : decode me_M_step.2.1 55 = .ok (.aload_n 0, 1) := by decide +kernel
theorem d_M_step_56 : decode me_M_step.2.1 56 = .ok (.invokevirtual 213, 3) := by decide +kernel
theorem d_M_step_59 : decode me_M_step.2.1 59 = .ok (.iinc 2 1, 3) := by decide +kernel
theorem d_M_step_62 : decode me_M_step.2.1 62 = .ok (.goto (-12), 3) := by decide +kernel
theorem d_M_step_65 : decode me_M_step.2.1 65 = .ok (.iconst 0, 1) := by decide +kernel
theorem d_M_step_66 : decode me_M_step.2.1 66 = .ok (.istore_n 2, 1) := by decide +kernel
theorem d_M_step_67 : decode me_M_step.2.1 67 = .ok (.iconst 0, 1) := by decide +kernel
theorem d_M_step_68 : decode me_M_step.2.1 68 = .ok (.istore_n 3, 1) := by decide +kernel
theorem d_M_step_69 : decode me_M_step.2.1 69 = .ok (.iload_n 3, 1) := by decide +kernel
theorem d_M_step_70 : decode me_M_step.2.1 70 = .ok (.aload_n 0, 1) := by decide +kernel
theorem d_M_step_71 : decode me_M_step.2.1 71 = .ok (.getfield 16, 3) := by decide +kernel
theorem d_M_step_74 : decode me_M_step.2.1 74 = .ok (.if_icmp .ge 32, 3) := by decide +kernel
theorem d_M_step_77 : decode me_M_step.2.1 77 = .ok (.aload_n 0, 1) := by decide +kernel
theorem d_M_step_78 : decode me_M_step.2.1 78 = .ok (.getfield 20, 3) := by decide +kernel
theorem d_M_step_81 : decode me_M_step.2.1 81 = .ok (.iload_n 3, 1) := by decide +kernel
theorem d_M_step_82 : decode me_M_step.2.1 82 = .ok (.iaload, 1) := by decide +kernel
theorem d_M_step_83 : decode me_M_step.2.1 83 = .ok (.aload_n 0, 1) := by decide +kernel
theorem d_M_step_84 : decode me_M_step.2.1 84 = .ok (.getfield 100, 3) := by decide +kernel
theorem d_M_step_87 : decode me_M_step.2.1 87 = .ok (.iload_n 3, 1) := by decide +kernel
theorem d_M_step_88 : decode me_M_step.2.1 88 = .ok (.iaload, 1) := by decide +kernel
theorem d_M_step_89 : decode me_M_step.2.1 89 = .ok (.if_icmp .ne 7, 3) := by decide +kernel
theorem d_M_step_92 : decode me_M_step.2.1 92 = .ok (.iload_n 2, 1) := by decide +kernel
theorem d_M_step_93 : decode me_M_step.2.1 93 = .ok (.goto 6, 3) := by decide +kernel
theorem d_M_step_96 : decode me_M_step.2.1 96 = .ok (.iload_n 2, 1) := by decide +kernel
theorem d_M_step_97 : decode me_M_step.2.1 97 = .ok (.iconst 1, 1) := by decide +kernel
theorem d_M_step_98 : decode me_M_step.2.1 98 = .ok (.iadd, 1) := by decide +kernel
theorem d_M_step_99 : decode me_M_step.2.1 99 = .ok (.istore_n 2, 1) := by decide +kernel
theorem d_M_step_100 : decode me_M_step.2.1 100 = .ok (.iinc 3 1, 3) := by decide +kernel
theorem d_M_step_103 : decode me_M_step.2.1 103 = .ok (.goto (-34), 3) := by decide +kernel
theorem d_M_step_106 : decode me_M_step.2.1 106 = .ok (.aload_n 0, 1) := by decide +kernel
theorem d_M_step_107 : decode me_M_step.2.1 107 = .ok (.iconst 0, 1) := by decide +kernel
theorem d_M_step_108 : decode me_M_step.2.1 108 = .ok (.putfield 210, 3) := by decide +kernel
theorem d_M_step_111 : decode me_M_step.2.1 111 = .ok (.iload_n 2, 1) := by decide +kernel
theorem d_M_step_112 : decode me_M_step.2.1 112 = .ok (.ireturn, 1) := by decide +kernel
abbrev G_M_step_0 (l : Launch) (v : gs_V) (n : Nat) (post : Int32 → gs_S → Prop) (σ : gs_S) (x1 : Int32) : Prop := gG l v lyM 33 me_M_step n (qI v lyM 33 post) 0 [(0, .ref (v.2.2 0)), (1, .int x1)] [] σ
abbrev G_M_step_18 (l : Launch) (v : gs_V) (n : Nat) (post : Int32 → gs_S → Prop) (σ : gs_S) : Prop := gG l v lyM 33 me_M_step n (qI v lyM 33 post) 18 [] [] σ
abbrev G_M_step_22 (l : Launch) (v : gs_V) (n : Nat) (post : Int32 → gs_S → Prop) (σ : gs_S) (x1 : Int32) (x2 : Int32) : Prop := gG l v lyM 33 me_M_step n (qI v lyM 33 post) 22 [(0, .ref (v.2.2 0)), (1, .int x1), (2, .int x2)] [] σ
abbrev G_M_step_50 (l : Launch) (v : gs_V) (n : Nat) (post : Int32 → gs_S → Prop) (σ : gs_S) (x1 : Int32) (x2 : Int32) : Prop := gG l v lyM 33 me_M_step n (qI v lyM 33 post) 50 [(0, .ref (v.2.2 0)), (1, .int x1), (2, .int x2)] [] σ
abbrev G_M_step_69 (l : Launch) (v : gs_V) (n : Nat) (post : Int32 → gs_S → Prop) (σ : gs_S) (x2 : Int32) (x3 : Int32) : Prop := gG l v lyM 33 me_M_step n (qI v lyM 33 post) 69 [(0, .ref (v.2.2 0)), (2, .int x2), (3, .int x3)] [] σ
abbrev G_M_step_99 (l : Launch) (v : gs_V) (n : Nat) (post : Int32 → gs_S → Prop) (σ : gs_S) (x3 : Int32) (s0 : Int32) : Prop := gG l v lyM 33 me_M_step n (qI v lyM 33 post) 99 [(0, .ref (v.2.2 0)), (3, .int x3)] [.int s0] σ
set_option maxRecDepth 20000 in
set_option maxHeartbeats 1000000 in
theorem T_M_step_0 {l : Launch} {v : gs_V} {n : Nat} {post : Int32 → gs_S → Prop} {σ : gs_S} {x1 : Int32} (h : (((σ.1 0 2) = 0 → G_M_step_18 l v n post σ) ∧ (¬ (σ.1 0 2) = 0 → ((x1 < 0 → G_M_step_18 l v n post σ) ∧ (¬ x1 < 0 → ((x1 ≤ 200 → G_M_step_22 l v n post σ x1 0) ∧ (¬ x1 ≤ 200 → G_M_step_18 l v n post σ))))))) : G_M_step_0 l v n post σ x1 := by
  refine g_aload_n d_M_step_0 0 rfl rfl ?_
  refine g_getV (x := .int (σ.1 0 2)) d_M_step_1 fl_M_179 (by decide) rfl rfl rfl ?_
  refine g_if_eq (tgt := 18) d_M_step_4 rfl (fun hc => ?_) (fun hc => ?_)
  · have h := h.1 hc
    exact g_sub [] rfl h
  · have h := h.2 hc
    refine g_iload_n d_M_step_7 1 rfl rfl ?_
    refine g_if_lt (tgt := 18) d_M_step_8 rfl (fun hc => ?_) (fun hc => ?_)
    · have h := h.1 hc
      exact g_sub [] rfl h
    · have h := h.2 hc
      refine g_iload_n d_M_step_11 1 rfl rfl ?_
      refine g_sipush d_M_step_12 (x := 200) (by decide) ?_
      refine g_icmp_le (tgt := 20) d_M_step_15 rfl (fun hc => ?_) (fun hc => ?_)
      · have h := h.1 hc
        refine g_iconst d_M_step_20 (x := 0) (by decide) ?_
        refine g_istore_n (L' := [(2, .int 0), (0, .ref (v.2.2 0)), (1, .int x1)]) d_M_step_21 rfl (by decide) rfl ?_
        exact g_sub [1, 2, 0] rfl h
      · have h := h.2 hc
        exact g_sub [] rfl h
set_option maxRecDepth 20000 in
set_option maxHeartbeats 1000000 in
theorem T_M_step_18 {l : Launch} {v : gs_V} {n : Nat} {post : Int32 → gs_S → Prop} {σ : gs_S} (h : post ((-1)) σ) : G_M_step_18 l v n post σ := by
  refine g_iconst d_M_step_18 (x := (-1)) (by decide) ?_
  exact g_iret d_M_step_19 rfl h
set_option maxRecDepth 20000 in
set_option maxHeartbeats 1000000 in
theorem T_M_step_22 {l : Launch} {v : gs_V} {n : Nat} {post : Int32 → gs_S → Prop} {σ : gs_S} {x1 : Int32} {x2 : Int32} (h : (((σ.1 0 7) ≤ x2 → G_M_step_50 l v n post σ x1 0) ∧ (¬ (σ.1 0 7) ≤ x2 → vp_in x2 64 ∧ vp_in x2 68 ∧ G_M_step_22 l v n post (gs_pI σ 29 x2.toNatClampNeg (σ.1 3 x2.toNatClampNeg)) x1 (x2 + 1)))) : G_M_step_22 l v n post σ x1 x2 := by
  refine g_iload_n d_M_step_22 2 rfl rfl ?_
  refine g_aload_n d_M_step_23 0 rfl rfl ?_
  refine g_getV (x := .int (σ.1 0 7)) d_M_step_24 fl_M_16 (by decide) rfl rfl rfl ?_
  refine g_icmp_ge (tgt := 48) d_M_step_27 rfl (fun hc => ?_) (fun hc => ?_)
  · have h := h.1 hc
    refine g_iconst d_M_step_48 (x := 0) (by decide) ?_
    refine g_istore_n (L' := [(2, .int 0), (0, .ref (v.2.2 0)), (1, .int x1)]) d_M_step_49 rfl (by decide) rfl ?_
    exact g_sub [1, 2, 0] rfl h
  · have h := h.2 hc
    refine g_aload_n d_M_step_30 0 rfl rfl ?_
    refine g_getV (x := .ref (v.2.2 29)) d_M_step_31 fl_M_100 (by decide) rfl rfl rfl ?_
    refine g_iload_n d_M_step_34 2 rfl rfl ?_
    refine g_aload_n d_M_step_35 0 rfl rfl ?_
    refine g_getV (x := .ref (v.2.2 3)) d_M_step_36 fl_M_20 (by decide) rfl rfl rfl ?_
    refine g_iload_n d_M_step_39 2 rfl rfl ?_
    have hi1 := h.1
    have h := h.2
    refine g_iald (x := σ.1 3 x2.toNatClampNeg) d_M_step_40 (by decide) rfl hi1 rfl ?_
    have hi2 := h.1
    have h := h.2
    refine g_iast d_M_step_41 (by decide) rfl hi2 ?_
    refine g_iinc (L' := [(2, .int (x2 + 1)), (0, .ref (v.2.2 0)), (1, .int x1)]) d_M_step_42 2 rfl (by rfl) (by decide) rfl ?_
    refine g_goto (tgt := 22) d_M_step_45 rfl ?_
    exact g_sub [1, 2, 0] rfl h
set_option maxRecDepth 20000 in
set_option maxHeartbeats 1000000 in
theorem T_M_step_50 {l : Launch} {v : gs_V} {n : Nat} {post : Int32 → gs_S → Prop} {σ : gs_S} {x1 : Int32} {x2 : Int32} (h : ((x1 ≤ x2 → G_M_step_69 l v n post σ 0 0) ∧ (¬ x1 ≤ x2 → gM l v lyM 33 me_M_turn n [.ref (v.2.2 0)] σ (qV v lyM 33 (fun σ1 => G_M_step_50 l v n post σ1 x1 (x2 + 1)))))) : G_M_step_50 l v n post σ x1 x2 := by
  refine g_iload_n d_M_step_50 2 rfl rfl ?_
  refine g_iload_n d_M_step_51 1 rfl rfl ?_
  refine g_icmp_ge (tgt := 65) d_M_step_52 rfl (fun hc => ?_) (fun hc => ?_)
  · have h := h.1 hc
    refine g_iconst d_M_step_65 (x := 0) (by decide) ?_
    refine g_istore_n (L' := [(2, .int 0), (0, .ref (v.2.2 0)), (1, .int x1)]) d_M_step_66 rfl (by decide) rfl ?_
    refine g_iconst d_M_step_67 (x := 0) (by decide) ?_
    refine g_istore_n (L' := [(3, .int 0), (2, .int 0), (0, .ref (v.2.2 0)), (1, .int x1)]) d_M_step_68 rfl (by decide) rfl ?_
    exact g_sub [2, 1, 0] rfl h
  · have h := h.2 hc
    refine g_aload_n d_M_step_55 0 rfl rfl ?_
    refine g_callVv (av := []) (rest := []) d_M_step_56 Y_M_turn lk_M_213 (by decide) rfl rfl I_M_turn rfl (Nat.le_of_ble_eq_true rfl) rfl h (fun σ1 h => ?_)
    refine g_iinc (L' := [(2, .int (x2 + 1)), (0, .ref (v.2.2 0)), (1, .int x1)]) d_M_step_59 2 rfl (by rfl) (by decide) rfl ?_
    refine g_goto (tgt := 50) d_M_step_62 rfl ?_
    exact g_sub [1, 2, 0] rfl h
set_option maxRecDepth 20000 in
set_option maxHeartbeats 1000000 in
theorem T_M_step_69 {l : Launch} {v : gs_V} {n : Nat} {post : Int32 → gs_S → Prop} {σ : gs_S} {x2 : Int32} {x3 : Int32} (h : (((σ.1 0 7) ≤ x3 → post x2 (gs_pI σ 0 47 0)) ∧ (¬ (σ.1 0 7) ≤ x3 → vp_in x3 64 ∧ vp_in x3 68 ∧ ((¬ (σ.1 3 x3.toNatClampNeg) = (σ.1 29 x3.toNatClampNeg) → G_M_step_99 l v n post σ x3 (x2 + 1)) ∧ ((σ.1 3 x3.toNatClampNeg) = (σ.1 29 x3.toNatClampNeg) → G_M_step_99 l v n post σ x3 x2))))) : G_M_step_69 l v n post σ x2 x3 := by
  refine g_iload_n d_M_step_69 2 rfl rfl ?_
  refine g_aload_n d_M_step_70 0 rfl rfl ?_
  refine g_getV (x := .int (σ.1 0 7)) d_M_step_71 fl_M_16 (by decide) rfl rfl rfl ?_
  refine g_icmp_ge (tgt := 106) d_M_step_74 rfl (fun hc => ?_) (fun hc => ?_)
  · have h := h.1 hc
    refine g_aload_n d_M_step_106 0 rfl rfl ?_
    refine g_iconst d_M_step_107 (x := 0) (by decide) ?_
    refine g_putI d_M_step_108 fp_M_210 (by decide) rfl rfl ⟨rfl, rfl⟩ ?_
    refine g_iload_n d_M_step_111 1 rfl rfl ?_
    exact g_iret d_M_step_112 rfl h
  · have h := h.2 hc
    refine g_aload_n d_M_step_77 0 rfl rfl ?_
    refine g_getV (x := .ref (v.2.2 3)) d_M_step_78 fl_M_20 (by decide) rfl rfl rfl ?_
    refine g_iload_n d_M_step_81 2 rfl rfl ?_
    have hi1 := h.1
    have h := h.2
    refine g_iald (x := σ.1 3 x3.toNatClampNeg) d_M_step_82 (by decide) rfl hi1 rfl ?_
    refine g_aload_n d_M_step_83 0 rfl rfl ?_
    refine g_getV (x := .ref (v.2.2 29)) d_M_step_84 fl_M_100 (by decide) rfl rfl rfl ?_
    refine g_iload_n d_M_step_87 2 rfl rfl ?_
    have hi2 := h.1
    have h := h.2
    refine g_iald (x := σ.1 29 x3.toNatClampNeg) d_M_step_88 (by decide) rfl hi2 rfl ?_
    refine g_icmp_ne (tgt := 96) d_M_step_89 rfl (fun hc => ?_) (fun hc => ?_)
    · have h := h.1 hc
      refine g_iload_n d_M_step_96 1 rfl rfl ?_
      refine g_iconst d_M_step_97 (x := 1) (by decide) ?_
      refine g_iadd d_M_step_98 ?_
      exact g_sub [0, 2] rfl h
    · have h := h.2 hc
      refine g_iload_n d_M_step_92 1 rfl rfl ?_
      refine g_goto (tgt := 99) d_M_step_93 rfl ?_
      exact g_sub [0, 2] rfl h
set_option maxRecDepth 20000 in
set_option maxHeartbeats 1000000 in
theorem T_M_step_99 {l : Launch} {v : gs_V} {n : Nat} {post : Int32 → gs_S → Prop} {σ : gs_S} {x3 : Int32} {s0 : Int32} (h : G_M_step_69 l v n post σ s0 (x3 + 1)) : G_M_step_99 l v n post σ x3 s0 := by
  refine g_istore_n (L' := [(2, .int s0), (0, .ref (v.2.2 0)), (3, .int x3)]) d_M_step_99 rfl (by decide) rfl ?_
  refine g_iinc (L' := [(3, .int (x3 + 1)), (2, .int s0), (0, .ref (v.2.2 0))]) d_M_step_100 2 rfl (by rfl) (by decide) rfl ?_
  refine g_goto (tgt := 69) d_M_step_103 rfl ?_
  exact g_sub [2, 1, 0] rfl h
theorem E_M_step {l : Launch} {v : gs_V} {n : Nat} {post : Int32 → gs_S → Prop} {σ : gs_S} {x1 : Int32} (h : G_M_step_0 l v n post σ x1) : gM l v lyM 33 me_M_step (n + 1) [.ref (v.2.2 0), .int x1] σ (qI v lyM 33 post) := gM_of (by decide +kernel) (Nat.le_of_ble_eq_true rfl) h
/-! LineRulesModel.surjective -/
theorem d_M_surjective_0 : decode me_M_surjective.2.1 0 = .ok (.aload_n 0, 1) := by decide +kernel
theorem d_M_surjective_1 : decode me_M_surjective.2.1 1 = .ok (.getfield 179, 3) := by decide +kernel
theorem d_M_surjective_4 : decode me_M_surjective.2.1 4 = .ok (.ifCond .ne 5, 3) := by decide +kernel
theorem d_M_surjective_7 : decode me_M_surjective.2.1 7 = .ok (.iconst (-1), 1) := by decide +kernel
theorem d_M_surjective_8 : decode me_M_surjective.2.1 8 = .ok (.ireturn, 1) := by decide +kernel
theorem d_M_surjective_9 : decode me_M_surjective.2.1 9 = .ok (.aload_n 0, 1) := by decide +kernel
theorem d_M_surjective_10 : decode me_M_surjective.2.1 10 = .ok (.getfield 194, 3) := by decide +kernel
theorem d_M_surjective_13 : decode me_M_surjective.2.1 13 = .ok (.ifCond .ne 44, 3) := by decide +kernel
theorem d_M_surjective_16 : decode me_M_surjective.2.1 16 = .ok (.aload_n 0, 1) := by decide +kernel
theorem d_M_surjective_17 : decode me_M_surjective.2.1 17 = .ok (.getfield 182, 3) := by decide +kernel
theorem d_M_surjective_20 : decode me_M_surjective.2.1 20 = .ok (.iconst 1, 1) := by decide +kernel
theorem d_M_surjective_21 : decode me_M_surjective.2.1 21 = .ok (.if_icmp .ne 10, 3) := by decide +kernel
theorem d_M_surjective_24 : decode me_M_surjective.2.1 24 = .ok (.aload_n 0, 1) := by decide +kernel
theorem d_M_surjective_25 : decode me_M_surjective.2.1 25 = .ok (.invokevirtual 223, 3) := by decide +kernel
theorem d_M_surjective_28 : decode me_M_surjective.2.1 28 = .ok (.goto 15, 3) := by decide +kernel
theorem d_M_surjective_31 : decode me_M_surjective.2.1 31 = .ok (.aload_n 0, 1) := by decide +kernel
theorem d_M_surjective_32 : decode me_M_surjective.2.1 32 = .ok (.invokevirtual 227, 3) := by decide +kernel
theorem d_M_surjective_35 : decode me_M_surjective.2.1 35 = .ok (.ifCond .ne 7, 3) := by decide +kernel
theorem d_M_surjective_38 : decode me_M_surjective.2.1 38 = .ok (.iconst 1, 1) := by decide +kernel
theorem d_M_surjective_39 : decode me_M_surjective.2.1 39 = .ok (.goto 4, 3) := by decide +kernel
theorem d_M_surjective_42 : decode me_M_surjective.2.1 42 = .ok (.iconst 0, 1) := by decide +kernel
theorem d_M_surjective_43 : decode me_M_surjective.2.1 43 = .ok (.istore_n 1, 1) := by decide +kernel
theorem d_M_surjective_44 : decode me_M_surjective.2.1 44 = .ok (.aload_n 0, 1) := by decide +kernel
theorem d_M_surjective_45 : decode me_M_surjective.2.1 45 = .ok (.iload_n 1, 1) := by decide +kernel
theorem d_M_surjective_46 : decode me_M_surjective.2.1 46 = .ok (.ifCond .eq 7, 3) := by decide +kernel
theorem d_M_surjective_49 : decode me_M_surjective.2.1 49 = .ok (.iconst 2, 1) := by decide +kernel
theorem d_M_surjective_50 : decode me_M_surjective.2.1 50 = .ok (.goto 4, 3) := by decide +kernel
theorem d_M_surjective_53 : decode me_M_surjective.2.1 53 = .ok (.iconst 1, 1) := by decide +kernel
theorem d_M_surjective_54 : decode me_M_surjective.2.1 54 = .ok (.putfield 194, 3) := by decide +kernel
theorem d_M_surjective_57 : decode me_M_surjective.2.1 57 = .ok (.aload_n 0, 1) := by decide +kernel
theorem d_M_surjective_58 : decode me_M_surjective.2.1 58 = .ok (.getfield 194, 3) := by decide +kernel
theorem d_M_surjective_61 : decode me_M_surjective.2.1 61 = .ok (.iconst 1, 1) := by decide +kernel
theorem d_M_surjective_62 : decode me_M_surjective.2.1 62 = .ok (.isub, 1) := by decide +kernel
theorem d_M_surjective_63 : decode me_M_surjective.2.1 63 = .ok (.ireturn, 1) := by decide +kernel
abbrev G_M_surjective_0 (l : Launch) (v : gs_V) (n : Nat) (post : Int32 → gs_S → Prop) (σ : gs_S) : Prop := gG l v lyM 33 me_M_surjective n (qI v lyM 33 post) 0 [(0, .ref (v.2.2 0))] [] σ
abbrev G_M_surjective_43 (l : Launch) (v : gs_V) (n : Nat) (post : Int32 → gs_S → Prop) (σ : gs_S) (s0 : Int32) : Prop := gG l v lyM 33 me_M_surjective n (qI v lyM 33 post) 43 [(0, .ref (v.2.2 0))] [.int s0] σ
abbrev G_M_surjective_54 (l : Launch) (v : gs_V) (n : Nat) (post : Int32 → gs_S → Prop) (σ : gs_S) (s0 : Int32) : Prop := gG l v lyM 33 me_M_surjective n (qI v lyM 33 post) 54 [(0, .ref (v.2.2 0))] [.int s0, .ref (v.2.2 0)] σ
abbrev G_M_surjective_57 (l : Launch) (v : gs_V) (n : Nat) (post : Int32 → gs_S → Prop) (σ : gs_S) : Prop := gG l v lyM 33 me_M_surjective n (qI v lyM 33 post) 57 [(0, .ref (v.2.2 0))] [] σ
set_option maxRecDepth 20000 in
set_option maxHeartbeats 1000000 in
theorem T_M_surjective_0 {l : Launch} {v : gs_V} {n : Nat} {post : Int32 → gs_S → Prop} {σ : gs_S} (h : ((¬ (σ.1 0 2) = 0 → ((¬ (σ.1 0 28) = 0 → G_M_surjective_57 l v n post σ) ∧ ((σ.1 0 28) = 0 → ((¬ (σ.1 0 3) = 1 → gM l v lyM 33 me_M_losesSomewhere n [.ref (v.2.2 0)] σ (qI v lyM 33 (fun r1 σ1 => ((¬ r1 = 0 → G_M_surjective_43 l v n post σ1 0) ∧ (r1 = 0 → G_M_surjective_43 l v n post σ1 1))))) ∧ ((σ.1 0 3) = 1 → gM l v lyM 33 me_M_makesAll n [.ref (v.2.2 0)] σ (qI v lyM 33 (fun r2 σ2 => G_M_surjective_43 l v n post σ2 r2))))))) ∧ ((σ.1 0 2) = 0 → post ((-1)) σ))) : G_M_surjective_0 l v n post σ := by
  refine g_aload_n d_M_surjective_0 0 rfl rfl ?_
  refine g_getV (x := .int (σ.1 0 2)) d_M_surjective_1 fl_M_179 (by decide) rfl rfl rfl ?_
  refine g_if_ne (tgt := 9) d_M_surjective_4 rfl (fun hc => ?_) (fun hc => ?_)
  · have h := h.1 hc
    refine g_aload_n d_M_surjective_9 0 rfl rfl ?_
    refine g_getV (x := .int (σ.1 0 28)) d_M_surjective_10 fl_M_194 (by decide) rfl rfl rfl ?_
    refine g_if_ne (tgt := 57) d_M_surjective_13 rfl (fun hc => ?_) (fun hc => ?_)
    · have h := h.1 hc
      exact h
    · have h := h.2 hc
      refine g_aload_n d_M_surjective_16 0 rfl rfl ?_
      refine g_getV (x := .int (σ.1 0 3)) d_M_surjective_17 fl_M_182 (by decide) rfl rfl rfl ?_
      refine g_iconst d_M_surjective_20 (x := 1) (by decide) ?_
      refine g_icmp_ne (tgt := 31) d_M_surjective_21 rfl (fun hc => ?_) (fun hc => ?_)
      · have h := h.1 hc
        refine g_aload_n d_M_surjective_31 0 rfl rfl ?_
        refine g_callVi (av := []) (rest := []) d_M_surjective_32 Y_M_losesSomewhere lk_M_227 (by decide) rfl rfl I_M_losesSomewhere rfl (Nat.le_of_ble_eq_true rfl) rfl h (fun r1 σ1 h => ?_)
        refine g_if_ne (tgt := 42) d_M_surjective_35 rfl (fun hc => ?_) (fun hc => ?_)
        · have h := h.1 hc
          refine g_iconst d_M_surjective_42 (x := 0) (by decide) ?_
          exact h
        · have h := h.2 hc
          refine g_iconst d_M_surjective_38 (x := 1) (by decide) ?_
          refine g_goto (tgt := 43) d_M_surjective_39 rfl ?_
          exact h
      · have h := h.2 hc
        refine g_aload_n d_M_surjective_24 0 rfl rfl ?_
        refine g_callVi (av := []) (rest := []) d_M_surjective_25 Y_M_makesAll lk_M_223 (by decide) rfl rfl I_M_makesAll rfl (Nat.le_of_ble_eq_true rfl) rfl h (fun r2 σ2 h => ?_)
        refine g_goto (tgt := 43) d_M_surjective_28 rfl ?_
        exact h
  · have h := h.2 hc
    refine g_iconst d_M_surjective_7 (x := (-1)) (by decide) ?_
    exact g_iret d_M_surjective_8 rfl h
set_option maxRecDepth 20000 in
set_option maxHeartbeats 1000000 in
theorem T_M_surjective_43 {l : Launch} {v : gs_V} {n : Nat} {post : Int32 → gs_S → Prop} {σ : gs_S} {s0 : Int32} (h : ((s0 = 0 → G_M_surjective_54 l v n post σ 1) ∧ (¬ s0 = 0 → G_M_surjective_54 l v n post σ 2))) : G_M_surjective_43 l v n post σ s0 := by
  refine g_istore_n (L' := [(1, .int s0), (0, .ref (v.2.2 0))]) d_M_surjective_43 rfl (by decide) rfl ?_
  refine g_aload_n d_M_surjective_44 1 rfl rfl ?_
  refine g_iload_n d_M_surjective_45 0 rfl rfl ?_
  refine g_if_eq (tgt := 53) d_M_surjective_46 rfl (fun hc => ?_) (fun hc => ?_)
  · have h := h.1 hc
    refine g_iconst d_M_surjective_53 (x := 1) (by decide) ?_
    exact g_sub [1] rfl h
  · have h := h.2 hc
    refine g_iconst d_M_surjective_49 (x := 2) (by decide) ?_
    refine g_goto (tgt := 54) d_M_surjective_50 rfl ?_
    exact g_sub [1] rfl h
set_option maxRecDepth 20000 in
set_option maxHeartbeats 1000000 in
theorem T_M_surjective_54 {l : Launch} {v : gs_V} {n : Nat} {post : Int32 → gs_S → Prop} {σ : gs_S} {s0 : Int32} (h : G_M_surjective_57 l v n post (gs_pI σ 0 28 s0)) : G_M_surjective_54 l v n post σ s0 := by
  refine g_putI d_M_surjective_54 fp_M_194 (by decide) rfl rfl ⟨rfl, rfl⟩ ?_
  exact h
set_option maxRecDepth 20000 in
set_option maxHeartbeats 1000000 in
theorem T_M_surjective_57 {l : Launch} {v : gs_V} {n : Nat} {post : Int32 → gs_S → Prop} {σ : gs_S} (h : post ((σ.1 0 28) - 1) σ) : G_M_surjective_57 l v n post σ := by
  refine g_aload_n d_M_surjective_57 0 rfl rfl ?_
  refine g_getV (x := .int (σ.1 0 28)) d_M_surjective_58 fl_M_194 (by decide) rfl rfl rfl ?_
  refine g_iconst d_M_surjective_61 (x := 1) (by decide) ?_
  refine g_isub d_M_surjective_62 ?_
  exact g_iret d_M_surjective_63 rfl h
theorem E_M_surjective {l : Launch} {v : gs_V} {n : Nat} {post : Int32 → gs_S → Prop} {σ : gs_S} (h : G_M_surjective_0 l v n post σ) : gM l v lyM 33 me_M_surjective (n + 1) [.ref (v.2.2 0)] σ (qI v lyM 33 post) := gM_of (by decide +kernel) (Nat.le_of_ble_eq_true rfl) h
