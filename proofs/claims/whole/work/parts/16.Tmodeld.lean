/-! LineRulesModel.tells -/
theorem d_M_tells_0 : decode me_M_tells.2.1 0 = .ok (.iload_n 1, 1) := by decide +kernel
theorem d_M_tells_1 : decode me_M_tells.2.1 1 = .ok (.aload_n 0, 1) := by decide +kernel
theorem d_M_tells_2 : decode me_M_tells.2.1 2 = .ok (.getfield 182, 3) := by decide +kernel
theorem d_M_tells_5 : decode me_M_tells.2.1 5 = .ok (.iadd, 1) := by decide +kernel
theorem d_M_tells_6 : decode me_M_tells.2.1 6 = .ok (.iconst 1, 1) := by decide +kernel
theorem d_M_tells_7 : decode me_M_tells.2.1 7 = .ok (.isub, 1) := by decide +kernel
theorem d_M_tells_8 : decode me_M_tells.2.1 8 = .ok (.istore_n 3, 1) := by decide +kernel
theorem d_M_tells_9 : decode me_M_tells.2.1 9 = .ok (.aload_n 0, 1) := by decide +kernel
theorem d_M_tells_10 : decode me_M_tells.2.1 10 = .ok (.getfield 179, 3) := by decide +kernel
theorem d_M_tells_13 : decode me_M_tells.2.1 13 = .ok (.iload_n 3, 1) := by decide +kernel
theorem d_M_tells_14 : decode me_M_tells.2.1 14 = .ok (.invokestatic 147, 3) := by decide +kernel
theorem d_M_tells_17 : decode me_M_tells.2.1 17 = .ok (.istore 4, 2) := by decide +kernel
theorem d_M_tells_19 : decode me_M_tells.2.1 19 = .ok (.aload_n 0, 1) := by decide +kernel
theorem d_M_tells_20 : decode me_M_tells.2.1 20 = .ok (.getfield 179, 3) := by decide +kernel
theorem d_M_tells_23 : decode me_M_tells.2.1 23 = .ok (.iload_n 3, 1) := by decide +kernel
theorem d_M_tells_24 : decode me_M_tells.2.1 24 = .ok (.iconst 1, 1) := by decide +kernel
theorem d_M_tells_25 : decode me_M_tells.2.1 25 = .ok (.isub, 1) := by decide +kernel
theorem d_M_tells_26 : decode me_M_tells.2.1 26 = .ok (.iload_n 2, 1) := by decide +kernel
theorem d_M_tells_27 : decode me_M_tells.2.1 27 = .ok (.isub, 1) := by decide +kernel
theorem d_M_tells_28 : decode me_M_tells.2.1 28 = .ok (.invokestatic 147, 3) := by decide +kernel
theorem d_M_tells_31 : decode me_M_tells.2.1 31 = .ok (.istore 5, 2) := by decide +kernel
theorem d_M_tells_33 : decode me_M_tells.2.1 33 = .ok (.iconst 0, 1) := by decide +kernel
theorem d_M_tells_34 : decode me_M_tells.2.1 34 = .ok (.istore 6, 2) := by decide +kernel
theorem d_M_tells_36 : decode me_M_tells.2.1 36 = .ok (.iload 6, 2) := by decide +kernel
theorem d_M_tells_38 : decode me_M_tells.2.1 38 = .ok (.sipush 1024, 3) := by decide +kernel
theorem d_M_tells_41 : decode me_M_tells.2.1 41 = .ok (.if_icmp .ge 17, 3) := by decide +kernel
theorem d_M_tells_44 : decode me_M_tells.2.1 44 = .ok (.aload_n 0, 1) := by decide +kernel
theorem d_M_tells_45 : decode me_M_tells.2.1 45 = .ok (.getfield 72, 3) := by decide +kernel
theorem d_M_tells_48 : decode me_M_tells.2.1 48 = .ok (.iload 6, 2) := by decide +kernel
theorem d_M_tells_50 : decode me_M_tells.2.1 50 = .ok (.iconst (-1), 1) := by decide +kernel
theorem d_M_tells_51 : decode me_M_tells.2.1 51 = .ok (.iastore, 1) := by decide +kernel
theorem d_M_tells_52 : decode me_M_tells.2.1 52 = .ok (.iinc 6 1, 3) := by decide +kernel
theorem d_M_tells_55 : decode me_M_tells.2.1 55 = .ok (.goto (-19), 3) := by decide +kernel
theorem d_M_tells_58 : decode me_M_tells.2.1 58 = .ok (.iconst 0, 1) := by decide +kernel
theorem d_M_tells_59 : decode me_M_tells.2.1 59 = .ok (.istore 6, 2) := by decide +kernel
theorem d_M_tells_61 : decode me_M_tells.2.1 61 = .ok (.iload 6, 2) := by decide +kernel
theorem d_M_tells_63 : decode me_M_tells.2.1 63 = .ok (.iload 4, 2) := by decide +kernel
theorem d_M_tells_65 : decode me_M_tells.2.1 65 = .ok (.if_icmp .ge 63, 3) := by decide +kernel
theorem d_M_tells_68 : decode me_M_tells.2.1 68 = .ok (.aload_n 0, 1) := by decide +kernel
theorem d_M_tells_69 : decode me_M_tells.2.1 69 = .ok (.iload 6, 2) := by decide +kernel
theorem d_M_tells_71 : decode me_M_tells.2.1 71 = .ok (.iload_n 1, 1) := by decide +kernel
theorem d_M_tells_72 : decode me_M_tells.2.1 72 = .ok (.invokevirtual 233, 3) := by decide +kernel
theorem d_M_tells_75 : decode me_M_tells.2.1 75 = .ok (.istore 7, 2) := by decide +kernel
theorem d_M_tells_77 : decode me_M_tells.2.1 77 = .ok (.iload 6, 2) := by decide +kernel
theorem d_M_tells_79 : decode me_M_tells.2.1 79 = .ok (.iload 5, 2) := by decide +kernel
theorem d_M_tells_81 : decode me_M_tells.2.1 81 = .ok (.idiv, 1) := by decide +kernel
theorem d_M_tells_82 : decode me_M_tells.2.1 82 = .ok (.aload_n 0, 1) := by decide +kernel
theorem d_M_tells_83 : decode me_M_tells.2.1 83 = .ok (.getfield 179, 3) := by decide +kernel
theorem d_M_tells_86 : decode me_M_tells.2.1 86 = .ok (.irem, 1) := by decide +kernel
theorem d_M_tells_87 : decode me_M_tells.2.1 87 = .ok (.istore 8, 2) := by decide +kernel
theorem d_M_tells_89 : decode me_M_tells.2.1 89 = .ok (.aload_n 0, 1) := by decide +kernel
theorem d_M_tells_90 : decode me_M_tells.2.1 90 = .ok (.getfield 72, 3) := by decide +kernel
theorem d_M_tells_93 : decode me_M_tells.2.1 93 = .ok (.iload 7, 2) := by decide +kernel
theorem d_M_tells_95 : decode me_M_tells.2.1 95 = .ok (.iaload, 1) := by decide +kernel
theorem d_M_tells_96 : decode me_M_tells.2.1 96 = .ok (.ifCond .lt 17, 3) := by decide +kernel
theorem d_M_tells_99 : decode me_M_tells.2.1 99 = .ok (.aload_n 0, 1) := by decide +kernel
theorem d_M_tells_100 : decode me_M_tells.2.1 100 = .ok (.getfield 72, 3) := by decide +kernel
theorem d_M_tells_103 : decode me_M_tells.2.1 103 = .ok (.iload 7, 2) := by decide +kernel
theorem d_M_tells_105 : decode me_M_tells.2.1 105 = .ok (.iaload, 1) := by decide +kernel
theorem d_M_tells_106 : decode me_M_tells.2.1 106 = .ok (.iload 8, 2) := by decide +kernel
theorem d_M_tells_108 : decode me_M_tells.2.1 108 = .ok (.if_icmp .eq 5, 3) := by decide +kernel
theorem d_M_tells_111 : decode me_M_tells.2.1 111 = .ok (.iconst 0, 1) := by decide +kernel
theorem d_M_tells_112 : decode me_M_tells.2.1 112 = .ok (.ireturn, 1) := by decide +kernel
theorem d_M_tells_113 : decode me_M_tells.2.1 113 = .ok (.aload_n 0, 1) := by decide +kernel
theorem d_M_tells_114 : decode me_M_tells.2.1 114 = .ok (.getfield 72, 3) := by decide +kernel
theorem d_M_tells_117 : decode me_M_tells.2.1 117 = .ok (.iload 7, 2) := by decide +kernel
theorem d_M_tells_119 : decode me_M_tells.2.1 119 = .ok (.iload 8, 2) := by decide +kernel
theorem d_M_tells_121 : decode me_M_tells.2.1 121 = .ok (.iastore, 1) := by decide +kernel
theorem d_M_tells_122 : decode me_M_tells.2.1 122 = .ok (.iinc 6 1, 3) := by decide +kernel
theorem d_M_tells_125 : decode me_M_tells.2.1 125 = .ok (.goto (-64), 3) := by decide +kernel
theorem d_M_tells_128 : decode me_M_tells.2.1 128 = .ok (.iconst 1, 1) := by decide +kernel
theorem d_M_tells_129 : decode me_M_tells.2.1 129 = .ok (.ireturn, 1) := by decide +kernel
abbrev G_M_tells_0 (l : Launch) (v : gs_V) (n : Nat) (post : Int32 → gs_S → Prop) (σ : gs_S) (x1 : Int32) (x2 : Int32) : Prop := gG l v lyM 33 me_M_tells n (qI v lyM 33 post) 0 [(0, .ref (v.2.2 0)), (1, .int x1), (2, .int x2)] [] σ
abbrev G_M_tells_36 (l : Launch) (v : gs_V) (n : Nat) (post : Int32 → gs_S → Prop) (σ : gs_S) (x1 : Int32) (x4 : Int32) (x5 : Int32) (x6 : Int32) : Prop := gG l v lyM 33 me_M_tells n (qI v lyM 33 post) 36 [(0, .ref (v.2.2 0)), (1, .int x1), (4, .int x4), (5, .int x5), (6, .int x6)] [] σ
abbrev G_M_tells_61 (l : Launch) (v : gs_V) (n : Nat) (post : Int32 → gs_S → Prop) (σ : gs_S) (x1 : Int32) (x4 : Int32) (x5 : Int32) (x6 : Int32) : Prop := gG l v lyM 33 me_M_tells n (qI v lyM 33 post) 61 [(0, .ref (v.2.2 0)), (1, .int x1), (4, .int x4), (5, .int x5), (6, .int x6)] [] σ
abbrev G_M_tells_113 (l : Launch) (v : gs_V) (n : Nat) (post : Int32 → gs_S → Prop) (σ : gs_S) (x1 : Int32) (x4 : Int32) (x5 : Int32) (x6 : Int32) (x7 : Int32) (x8 : Int32) : Prop := gG l v lyM 33 me_M_tells n (qI v lyM 33 post) 113 [(0, .ref (v.2.2 0)), (1, .int x1), (4, .int x4), (5, .int x5), (6, .int x6), (7, .int x7), (8, .int x8)] [] σ
set_option maxRecDepth 20000 in
set_option maxHeartbeats 1000000 in
theorem T_M_tells_0 {l : Launch} {v : gs_V} {n : Nat} {post : Int32 → gs_S → Prop} {σ : gs_S} {x1 : Int32} {x2 : Int32} (h : gM l v lyM 33 me_M_powerOf n [.int (σ.1 0 2), .int ((x1 + (σ.1 0 3)) - 1)] σ (qI v lyM 33 (fun r1 σ1 => gM l v lyM 33 me_M_powerOf n [.int (σ1.1 0 2), .int ((((x1 + (σ.1 0 3)) - 1) - 1) - x2)] σ1 (qI v lyM 33 (fun r2 σ2 => G_M_tells_36 l v n post σ2 x1 r1 r2 0))))) : G_M_tells_0 l v n post σ x1 x2 := by
  refine g_iload_n d_M_tells_0 1 rfl rfl ?_
  refine g_aload_n d_M_tells_1 0 rfl rfl ?_
  refine g_getV (x := .int (σ.1 0 3)) d_M_tells_2 fl_M_182 (by decide) rfl rfl rfl ?_
  refine g_iadd d_M_tells_5 ?_
  refine g_iconst d_M_tells_6 (x := 1) (by decide) ?_
  refine g_isub d_M_tells_7 ?_
  refine g_istore_n (L' := [(3, .int ((x1 + (σ.1 0 3)) - 1)), (0, .ref (v.2.2 0)), (1, .int x1), (2, .int x2)]) d_M_tells_8 rfl (by decide) rfl ?_
  refine g_aload_n d_M_tells_9 1 rfl rfl ?_
  refine g_getV (x := .int (σ.1 0 2)) d_M_tells_10 fl_M_179 (by decide) rfl rfl rfl ?_
  refine g_iload_n d_M_tells_13 0 rfl rfl ?_
  refine g_callSi (av := [.int (σ.1 0 2), .int ((x1 + (σ.1 0 3)) - 1)]) (rest := []) d_M_tells_14 Y_M_powerOf lk_M_147 I_M_powerOf rfl (Nat.le_of_ble_eq_true rfl) rfl h (fun r1 σ1 h => ?_)
  refine g_istore (L' := [(4, .int r1), (3, .int ((x1 + (σ.1 0 3)) - 1)), (0, .ref (v.2.2 0)), (1, .int x1), (2, .int x2)]) d_M_tells_17 (by decide) rfl ?_
  refine g_aload_n d_M_tells_19 2 rfl rfl ?_
  refine g_getV (x := .int (σ1.1 0 2)) d_M_tells_20 fl_M_179 (by decide) rfl rfl rfl ?_
  refine g_iload_n d_M_tells_23 1 rfl rfl ?_
  refine g_iconst d_M_tells_24 (x := 1) (by decide) ?_
  refine g_isub d_M_tells_25 ?_
  refine g_iload_n d_M_tells_26 4 rfl rfl ?_
  refine g_isub d_M_tells_27 ?_
  refine g_callSi (av := [.int (σ1.1 0 2), .int ((((x1 + (σ.1 0 3)) - 1) - 1) - x2)]) (rest := []) d_M_tells_28 Y_M_powerOf lk_M_147 I_M_powerOf rfl (Nat.le_of_ble_eq_true rfl) rfl h (fun r2 σ2 h => ?_)
  refine g_istore (L' := [(5, .int r2), (4, .int r1), (3, .int ((x1 + (σ.1 0 3)) - 1)), (0, .ref (v.2.2 0)), (1, .int x1), (2, .int x2)]) d_M_tells_31 (by decide) rfl ?_
  refine g_iconst d_M_tells_33 (x := 0) (by decide) ?_
  refine g_istore (L' := [(6, .int 0), (5, .int r2), (4, .int r1), (3, .int ((x1 + (σ.1 0 3)) - 1)), (0, .ref (v.2.2 0)), (1, .int x1), (2, .int x2)]) d_M_tells_34 (by decide) rfl ?_
  exact g_sub [4, 5, 2, 1, 0] rfl h
set_option maxRecDepth 20000 in
set_option maxHeartbeats 1000000 in
theorem T_M_tells_36 {l : Launch} {v : gs_V} {n : Nat} {post : Int32 → gs_S → Prop} {σ : gs_S} {x1 : Int32} {x4 : Int32} {x5 : Int32} {x6 : Int32} (h : ((1024 ≤ x6 → G_M_tells_61 l v n post σ x1 x4 x5 0) ∧ (¬ 1024 ≤ x6 → vp_in x6 1024 ∧ G_M_tells_36 l v n post (gs_pI σ 20 x6.toNatClampNeg ((-1))) x1 x4 x5 (x6 + 1)))) : G_M_tells_36 l v n post σ x1 x4 x5 x6 := by
  refine g_iload d_M_tells_36 4 rfl ?_
  refine g_sipush d_M_tells_38 (x := 1024) (by decide) ?_
  refine g_icmp_ge (tgt := 58) d_M_tells_41 rfl (fun hc => ?_) (fun hc => ?_)
  · have h := h.1 hc
    refine g_iconst d_M_tells_58 (x := 0) (by decide) ?_
    refine g_istore (L' := [(6, .int 0), (0, .ref (v.2.2 0)), (1, .int x1), (4, .int x4), (5, .int x5)]) d_M_tells_59 (by decide) rfl ?_
    exact g_sub [1, 2, 3, 4, 0] rfl h
  · have h := h.2 hc
    refine g_aload_n d_M_tells_44 0 rfl rfl ?_
    refine g_getV (x := .ref (v.2.2 20)) d_M_tells_45 fl_M_72 (by decide) rfl rfl rfl ?_
    refine g_iload d_M_tells_48 4 rfl ?_
    refine g_iconst d_M_tells_50 (x := (-1)) (by decide) ?_
    have hi1 := h.1
    have h := h.2
    refine g_iast d_M_tells_51 (by decide) rfl hi1 ?_
    refine g_iinc (L' := [(6, .int (x6 + 1)), (0, .ref (v.2.2 0)), (1, .int x1), (4, .int x4), (5, .int x5)]) d_M_tells_52 4 rfl (by rfl) (by decide) rfl ?_
    refine g_goto (tgt := 36) d_M_tells_55 rfl ?_
    exact g_sub [1, 2, 3, 4, 0] rfl h
set_option maxRecDepth 20000 in
set_option maxHeartbeats 1000000 in
theorem T_M_tells_61 {l : Launch} {v : gs_V} {n : Nat} {post : Int32 → gs_S → Prop} {σ : gs_S} {x1 : Int32} {x4 : Int32} {x5 : Int32} {x6 : Int32} (h : ((x4 ≤ x6 → post 1 σ) ∧ (¬ x4 ≤ x6 → gM l v lyM 33 me_M_madeOf n [.ref (v.2.2 0), .int x6, .int x1] σ (qI v lyM 33 (fun r1 σ1 => ¬ x5 = 0 ∧ ¬ (σ1.1 0 2) = 0 ∧ vp_in r1 1024 ∧ (((σ1.1 20 r1.toNatClampNeg) < 0 → G_M_tells_113 l v n post σ1 x1 x4 x5 x6 r1 (jR (x6 / x5) (σ1.1 0 2))) ∧ (¬ (σ1.1 20 r1.toNatClampNeg) < 0 → vp_in r1 1024 ∧ (((σ1.1 20 r1.toNatClampNeg) = (jR (x6 / x5) (σ1.1 0 2)) → G_M_tells_113 l v n post σ1 x1 x4 x5 x6 r1 (jR (x6 / x5) (σ1.1 0 2))) ∧ (¬ (σ1.1 20 r1.toNatClampNeg) = (jR (x6 / x5) (σ1.1 0 2)) → post 0 σ1))))))))) : G_M_tells_61 l v n post σ x1 x4 x5 x6 := by
  refine g_iload d_M_tells_61 4 rfl ?_
  refine g_iload d_M_tells_63 2 rfl ?_
  refine g_icmp_ge (tgt := 128) d_M_tells_65 rfl (fun hc => ?_) (fun hc => ?_)
  · have h := h.1 hc
    refine g_iconst d_M_tells_128 (x := 1) (by decide) ?_
    exact g_zret d_M_tells_129 rfl rfl h
  · have h := h.2 hc
    refine g_aload_n d_M_tells_68 0 rfl rfl ?_
    refine g_iload d_M_tells_69 4 rfl ?_
    refine g_iload_n d_M_tells_71 1 rfl rfl ?_
    refine g_callVi (av := [.int x6, .int x1]) (rest := []) d_M_tells_72 Y_M_madeOf lk_M_233 (by decide) rfl rfl I_M_madeOf rfl (Nat.le_of_ble_eq_true rfl) rfl h (fun r1 σ1 h => ?_)
    refine g_istore (L' := [(7, .int r1), (0, .ref (v.2.2 0)), (1, .int x1), (4, .int x4), (5, .int x5), (6, .int x6)]) d_M_tells_75 (by decide) rfl ?_
    refine g_iload d_M_tells_77 5 rfl ?_
    refine g_iload d_M_tells_79 4 rfl ?_
    refine g_idiv d_M_tells_81 h.1 ?_
    have h := h.2
    refine g_aload_n d_M_tells_82 1 rfl rfl ?_
    refine g_getV (x := .int (σ1.1 0 2)) d_M_tells_83 fl_M_179 (by decide) rfl rfl rfl ?_
    refine g_irem d_M_tells_86 h.1 ?_
    have h := h.2
    refine g_istore (L' := [(8, .int (jR (x6 / x5) (σ1.1 0 2))), (7, .int r1), (0, .ref (v.2.2 0)), (1, .int x1), (4, .int x4), (5, .int x5), (6, .int x6)]) d_M_tells_87 (by decide) rfl ?_
    refine g_aload_n d_M_tells_89 2 rfl rfl ?_
    refine g_getV (x := .ref (v.2.2 20)) d_M_tells_90 fl_M_72 (by decide) rfl rfl rfl ?_
    refine g_iload d_M_tells_93 1 rfl ?_
    have hi2 := h.1
    have h := h.2
    refine g_iald (x := σ1.1 20 r1.toNatClampNeg) d_M_tells_95 (by decide) rfl hi2 rfl ?_
    refine g_if_lt (tgt := 113) d_M_tells_96 rfl (fun hc => ?_) (fun hc => ?_)
    · have h := h.1 hc
      exact g_sub [2, 3, 4, 5, 6, 1, 0] rfl h
    · have h := h.2 hc
      refine g_aload_n d_M_tells_99 2 rfl rfl ?_
      refine g_getV (x := .ref (v.2.2 20)) d_M_tells_100 fl_M_72 (by decide) rfl rfl rfl ?_
      refine g_iload d_M_tells_103 1 rfl ?_
      have hi3 := h.1
      have h := h.2
      refine g_iald (x := σ1.1 20 r1.toNatClampNeg) d_M_tells_105 (by decide) rfl hi3 rfl ?_
      refine g_iload d_M_tells_106 0 rfl ?_
      refine g_icmp_eq (tgt := 113) d_M_tells_108 rfl (fun hc => ?_) (fun hc => ?_)
      · have h := h.1 hc
        exact g_sub [2, 3, 4, 5, 6, 1, 0] rfl h
      · have h := h.2 hc
        refine g_iconst d_M_tells_111 (x := 0) (by decide) ?_
        exact g_zret d_M_tells_112 rfl rfl h
set_option maxRecDepth 20000 in
set_option maxHeartbeats 1000000 in
theorem T_M_tells_113 {l : Launch} {v : gs_V} {n : Nat} {post : Int32 → gs_S → Prop} {σ : gs_S} {x1 : Int32} {x4 : Int32} {x5 : Int32} {x6 : Int32} {x7 : Int32} {x8 : Int32} (h : vp_in x7 1024 ∧ G_M_tells_61 l v n post (gs_pI σ 20 x7.toNatClampNeg x8) x1 x4 x5 (x6 + 1)) : G_M_tells_113 l v n post σ x1 x4 x5 x6 x7 x8 := by
  refine g_aload_n d_M_tells_113 0 rfl rfl ?_
  refine g_getV (x := .ref (v.2.2 20)) d_M_tells_114 fl_M_72 (by decide) rfl rfl rfl ?_
  refine g_iload d_M_tells_117 5 rfl ?_
  refine g_iload d_M_tells_119 6 rfl ?_
  have hi1 := h.1
  have h := h.2
  refine g_iast d_M_tells_121 (by decide) rfl hi1 ?_
  refine g_iinc (L' := [(6, .int (x6 + 1)), (0, .ref (v.2.2 0)), (1, .int x1), (4, .int x4), (5, .int x5), (7, .int x7), (8, .int x8)]) d_M_tells_122 4 rfl (by rfl) (by decide) rfl ?_
  refine g_goto (tgt := 61) d_M_tells_125 rfl ?_
  exact g_sub [1, 2, 3, 4, 0] rfl h
theorem E_M_tells {l : Launch} {v : gs_V} {n : Nat} {post : Int32 → gs_S → Prop} {σ : gs_S} {x1 : Int32} {x2 : Int32} (h : G_M_tells_0 l v n post σ x1 x2) : gM l v lyM 33 me_M_tells (n + 1) [.ref (v.2.2 0), .int x1, .int x2] σ (qI v lyM 33 post) := gM_of (by decide +kernel) (Nat.le_of_ble_eq_true rfl) h
/-! LineRulesModel.turn -/
theorem d_M_turn_0 : decode me_M_turn.2.1 0 = .ok (.aload_n 0, 1) := by decide +kernel
theorem d_M_turn_1 : decode me_M_turn.2.1 1 = .ok (.getfield 182, 3) := by decide +kernel
theorem d_M_turn_4 : decode me_M_turn.2.1 4 = .ok (.iconst 1, 1) := by decide +kernel
theorem d_M_turn_5 : decode me_M_turn.2.1 5 = .ok (.isub, 1) := by decide +kernel
theorem d_M_turn_6 : decode me_M_turn.2.1 6 = .ok (.iconst 2, 1) := by decide +kernel
theorem d_M_turn_7 : decode me_M_turn.2.1 7 = .ok (.idiv, 1) := by decide +kernel
theorem d_M_turn_8 : decode me_M_turn.2.1 8 = .ok (.istore_n 1, 1) := by decide +kernel
theorem d_M_turn_9 : decode me_M_turn.2.1 9 = .ok (.iconst 0, 1) := by decide +kernel
theorem d_M_turn_10 : decode me_M_turn.2.1 10 = .ok (.istore_n 2, 1) := by decide +kernel
theorem d_M_turn_11 : decode me_M_turn.2.1 11 = .ok (.iload_n 2, 1) := by decide +kernel
theorem d_M_turn_12 : decode me_M_turn.2.1 12 = .ok (.aload_n 0, 1) := by decide +kernel
theorem d_M_turn_13 : decode me_M_turn.2.1 13 = .ok (.getfield 16, 3) := by decide +kernel
theorem d_M_turn_16 : decode me_M_turn.2.1 16 = .ok (.if_icmp .ge 72, 3) := by decide +kernel
theorem d_M_turn_19 : decode me_M_turn.2.1 19 = .ok (.iconst 0, 1) := by decide +kernel
theorem d_M_turn_20 : decode me_M_turn.2.1 20 = .ok (.istore_n 3, 1) := by decide +kernel
theorem d_M_turn_21 : decode me_M_turn.2.1 21 = .ok (.iconst 0, 1) := by decide +kernel
theorem d_M_turn_22 : decode me_M_turn.2.1 22 = .ok (.istore 4, 2) := by decide +kernel
theorem d_M_turn_24 : decode me_M_turn.2.1 24 = .ok (.iload 4, 2) := by decide +kernel
theorem d_M_turn_26 : decode me_M_turn.2.1 26 = .ok (.aload_n 0, 1) := by decide +kernel
theorem d_M_turn_27 : decode me_M_turn.2.1 27 = .ok (.getfield 182, 3) := by decide +kernel
theorem d_M_turn_30 : decode me_M_turn.2.1 30 = .ok (.if_icmp .ge 40, 3) := by decide +kernel
theorem d_M_turn_33 : decode me_M_turn.2.1 33 = .ok (.iload_n 3, 1) := by decide +kernel
theorem d_M_turn_34 : decode me_M_turn.2.1 34 = .ok (.aload_n 0, 1) := by decide +kernel
theorem d_M_turn_35 : decode me_M_turn.2.1 35 = .ok (.getfield 179, 3) := by decide +kernel
theorem d_M_turn_38 : decode me_M_turn.2.1 38 = .ok (.imul, 1) := by decide +kernel
theorem d_M_turn_39 : decode me_M_turn.2.1 39 = .ok (.aload_n 0, 1) := by decide +kernel
theorem d_M_turn_40 : decode me_M_turn.2.1 40 = .ok (.getfield 20, 3) := by decide +kernel
theorem d_M_turn_43 : decode me_M_turn.2.1 43 = .ok (.iload_n 2, 1) := by decide +kernel
theorem d_M_turn_44 : decode me_M_turn.2.1 44 = .ok (.iload_n 1, 1) := by decide +kernel
theorem d_M_turn_45 : decode me_M_turn.2.1 45 = .ok (.isub, 1) := by decide +kernel
theorem d_M_turn_46 : decode me_M_turn.2.1 46 = .ok (.iload 4, 2) := by decide +kernel
theorem d_M_turn_48 : decode me_M_turn.2.1 48 = .ok (.iadd, 1) := by decide +kernel
theorem d_M_turn_49 : decode me_M_turn.2.1 49 = .ok (.iconst 4, 1) := by decide +kernel
theorem d_M_turn_50 : decode me_M_turn.2.1 50 = .ok (.aload_n 0, 1) := by decide +kernel
theorem d_M_turn_51 : decode me_M_turn.2.1 51 = .ok (.getfield 16, 3) := by decide +kernel
theorem d_M_turn_54 : decode me_M_turn.2.1 54 = .ok (.imul, 1) := by decide +kernel
theorem d_M_turn_55 : decode me_M_turn.2.1 55 = .ok (.iadd, 1) := by decide +kernel
theorem d_M_turn_56 : decode me_M_turn.2.1 56 = .ok (.aload_n 0, 1) := by decide +kernel
theorem d_M_turn_57 : decode me_M_turn.2.1 57 = .ok (.getfield 16, 3) := by decide +kernel
theorem d_M_turn_60 : decode me_M_turn.2.1 60 = .ok (.irem, 1) := by decide +kernel
theorem d_M_turn_61 : decode me_M_turn.2.1 61 = .ok (.iaload, 1) := by decide +kernel
theorem d_M_turn_62 : decode me_M_turn.2.1 62 = .ok (.iadd, 1) := by decide +kernel
theorem d_M_turn_63 : decode me_M_turn.2.1 63 = .ok (.istore_n 3, 1) := by decide +kernel
theorem d_M_turn_64 : decode me_M_turn.2.1 64 = .ok (.iinc 4 1, 3) := by decide +kernel
theorem d_M_turn_67 : decode me_M_turn.2.1 67 = .ok (.goto (-43), 3) := by decide +kernel
theorem d_M_turn_70 : decode me_M_turn.2.1 70 = .ok (.aload_n 0, 1) := by decide +kernel
theorem d_M_turn_71 : decode me_M_turn.2.1 71 = .ok (.getfield 23, 3) := by decide +kernel
theorem d_M_turn_74 : decode me_M_turn.2.1 74 = .ok (.iload_n 2, 1) := by decide +kernel
theorem d_M_turn_75 : decode me_M_turn.2.1 75 = .ok (.aload_n 0, 1) := by decide +kernel
theorem d_M_turn_76 : decode me_M_turn.2.1 76 = .ok (.getfield 13, 3) := by decide +kernel
theorem d_M_turn_79 : decode me_M_turn.2.1 79 = .ok (.iload_n 3, 1) := by decide +kernel
theorem d_M_turn_80 : decode me_M_turn.2.1 80 = .ok (.iaload, 1) := by decide +kernel
theorem d_M_turn_81 : decode me_M_turn.2.1 81 = .ok (.iastore, 1) := by decide +kernel
theorem d_M_turn_82 : decode me_M_turn.2.1 82 = .ok (.iinc 2 1, 3) := by decide +kernel
theorem d_M_turn_85 : decode me_M_turn.2.1 85 = .ok (.goto (-74), 3) := by decide +kernel
theorem d_M_turn_88 : decode me_M_turn.2.1 88 = .ok (.iconst 0, 1) := by decide +kernel
theorem d_M_turn_89 : decode me_M_turn.2.1 89 = .ok (.istore_n 2, 1) := by decide +kernel
theorem d_M_turn_90 : decode me_M_turn.2.1 90 = .ok (.iload_n 2, 1) := by decide +kernel
theorem d_M_turn_91 : decode me_M_turn.2.1 91 = .ok (.aload_n 0, 1) := by decide +kernel
theorem d_M_turn_92 : decode me_M_turn.2.1 92 = .ok (.getfield 16, 3) := by decide +kernel
theorem d_M_turn_95 : decode me_M_turn.2.1 95 = .ok (.if_icmp .ge 21, 3) := by decide +kernel
theorem d_M_turn_98 : decode me_M_turn.2.1 98 = .ok (.aload_n 0, 1) := by decide +kernel
theorem d_M_turn_99 : decode me_M_turn.2.1 99 = .ok (.getfield 20, 3) := by decide +kernel
theorem d_M_turn_102 : decode me_M_turn.2.1 102 = .ok (.iload_n 2, 1) := by decide +kernel
theorem d_M_turn_103 : decode me_M_turn.2.1 103 = .ok (.aload_n 0, 1) := by decide +kernel
theorem d_M_turn_104 : decode me_M_turn.2.1 104 = .ok (.getfield 23, 3) := by decide +kernel
theorem d_M_turn_107 : decode me_M_turn.2.1 107 = .ok (.iload_n 2, 1) := by decide +kernel
theorem d_M_turn_108 : decode me_M_turn.2.1 108 = .ok (.iaload, 1) := by decide +kernel
theorem d_M_turn_109 : decode me_M_turn.2.1 109 = .ok (.iastore, 1) := by decide +kernel
theorem d_M_turn_110 : decode me_M_turn.2.1 110 = .ok (.iinc 2 1, 3) := by decide +kernel
theorem d_M_turn_113 : decode me_M_turn.2.1 113 = .ok (.goto (-23), 3) := by decide +kernel
theorem d_M_turn_116 : decode me_M_turn.2.1 116 = .ok (.return_, 1) := by decide +kernel
abbrev G_M_turn_0 (l : Launch) (v : gs_V) (n : Nat) (post : gs_S → Prop) (σ : gs_S) : Prop := gG l v lyM 33 me_M_turn n (qV v lyM 33 post) 0 [(0, .ref (v.2.2 0))] [] σ
abbrev G_M_turn_11 (l : Launch) (v : gs_V) (n : Nat) (post : gs_S → Prop) (σ : gs_S) (x1 : Int32) (x2 : Int32) : Prop := gG l v lyM 33 me_M_turn n (qV v lyM 33 post) 11 [(0, .ref (v.2.2 0)), (1, .int x1), (2, .int x2)] [] σ
abbrev G_M_turn_24 (l : Launch) (v : gs_V) (n : Nat) (post : gs_S → Prop) (σ : gs_S) (x1 : Int32) (x2 : Int32) (x3 : Int32) (x4 : Int32) : Prop := gG l v lyM 33 me_M_turn n (qV v lyM 33 post) 24 [(0, .ref (v.2.2 0)), (1, .int x1), (2, .int x2), (3, .int x3), (4, .int x4)] [] σ
abbrev G_M_turn_90 (l : Launch) (v : gs_V) (n : Nat) (post : gs_S → Prop) (σ : gs_S) (x2 : Int32) : Prop := gG l v lyM 33 me_M_turn n (qV v lyM 33 post) 90 [(0, .ref (v.2.2 0)), (2, .int x2)] [] σ
set_option maxRecDepth 20000 in
set_option maxHeartbeats 1000000 in
theorem T_M_turn_0 {l : Launch} {v : gs_V} {n : Nat} {post : gs_S → Prop} {σ : gs_S} (h : G_M_turn_11 l v n post σ (((σ.1 0 3) - 1) / 2) 0) : G_M_turn_0 l v n post σ := by
  refine g_aload_n d_M_turn_0 0 rfl rfl ?_
  refine g_getV (x := .int (σ.1 0 3)) d_M_turn_1 fl_M_182 (by decide) rfl rfl rfl ?_
  refine g_iconst d_M_turn_4 (x := 1) (by decide) ?_
  refine g_isub d_M_turn_5 ?_
  refine g_iconst d_M_turn_6 (x := 2) (by decide) ?_
  refine g_idiv d_M_turn_7 (by decide) ?_
  refine g_istore_n (L' := [(1, .int (((σ.1 0 3) - 1) / 2)), (0, .ref (v.2.2 0))]) d_M_turn_8 rfl (by decide) rfl ?_
  refine g_iconst d_M_turn_9 (x := 0) (by decide) ?_
  refine g_istore_n (L' := [(2, .int 0), (1, .int (((σ.1 0 3) - 1) / 2)), (0, .ref (v.2.2 0))]) d_M_turn_10 rfl (by decide) rfl ?_
  exact g_sub [2, 1, 0] rfl h
set_option maxRecDepth 20000 in
set_option maxHeartbeats 1000000 in
theorem T_M_turn_11 {l : Launch} {v : gs_V} {n : Nat} {post : gs_S → Prop} {σ : gs_S} {x1 : Int32} {x2 : Int32} (h : (((σ.1 0 7) ≤ x2 → G_M_turn_90 l v n post σ 0) ∧ (¬ (σ.1 0 7) ≤ x2 → G_M_turn_24 l v n post σ x1 x2 0 0))) : G_M_turn_11 l v n post σ x1 x2 := by
  refine g_iload_n d_M_turn_11 2 rfl rfl ?_
  refine g_aload_n d_M_turn_12 0 rfl rfl ?_
  refine g_getV (x := .int (σ.1 0 7)) d_M_turn_13 fl_M_16 (by decide) rfl rfl rfl ?_
  refine g_icmp_ge (tgt := 88) d_M_turn_16 rfl (fun hc => ?_) (fun hc => ?_)
  · have h := h.1 hc
    refine g_iconst d_M_turn_88 (x := 0) (by decide) ?_
    refine g_istore_n (L' := [(2, .int 0), (0, .ref (v.2.2 0)), (1, .int x1)]) d_M_turn_89 rfl (by decide) rfl ?_
    exact g_sub [1, 0] rfl h
  · have h := h.2 hc
    refine g_iconst d_M_turn_19 (x := 0) (by decide) ?_
    refine g_istore_n (L' := [(3, .int 0), (0, .ref (v.2.2 0)), (1, .int x1), (2, .int x2)]) d_M_turn_20 rfl (by decide) rfl ?_
    refine g_iconst d_M_turn_21 (x := 0) (by decide) ?_
    refine g_istore (L' := [(4, .int 0), (3, .int 0), (0, .ref (v.2.2 0)), (1, .int x1), (2, .int x2)]) d_M_turn_22 (by decide) rfl ?_
    exact g_sub [2, 3, 4, 1, 0] rfl h
set_option maxRecDepth 20000 in
set_option maxHeartbeats 1000000 in
theorem T_M_turn_24 {l : Launch} {v : gs_V} {n : Nat} {post : gs_S → Prop} {σ : gs_S} {x1 : Int32} {x2 : Int32} {x3 : Int32} {x4 : Int32} (h : (((σ.1 0 3) ≤ x4 → vp_in x3 256 ∧ vp_in x2 64 ∧ G_M_turn_11 l v n post (gs_pI σ 4 x2.toNatClampNeg (σ.1 2 x3.toNatClampNeg)) x1 (x2 + 1)) ∧ (¬ (σ.1 0 3) ≤ x4 → ¬ (σ.1 0 7) = 0 ∧ vp_in (jR (((x2 - x1) + x4) + (4 * (σ.1 0 7))) (σ.1 0 7)) 64 ∧ G_M_turn_24 l v n post σ x1 x2 ((x3 * (σ.1 0 2)) + (σ.1 3 ((jR (((x2 - x1) + x4) + (4 * (σ.1 0 7))) (σ.1 0 7)).toNatClampNeg))) (x4 + 1)))) : G_M_turn_24 l v n post σ x1 x2 x3 x4 := by
  refine g_iload d_M_turn_24 4 rfl ?_
  refine g_aload_n d_M_turn_26 0 rfl rfl ?_
  refine g_getV (x := .int (σ.1 0 3)) d_M_turn_27 fl_M_182 (by decide) rfl rfl rfl ?_
  refine g_icmp_ge (tgt := 70) d_M_turn_30 rfl (fun hc => ?_) (fun hc => ?_)
  · have h := h.1 hc
    refine g_aload_n d_M_turn_70 0 rfl rfl ?_
    refine g_getV (x := .ref (v.2.2 4)) d_M_turn_71 fl_M_23 (by decide) rfl rfl rfl ?_
    refine g_iload_n d_M_turn_74 2 rfl rfl ?_
    refine g_aload_n d_M_turn_75 0 rfl rfl ?_
    refine g_getV (x := .ref (v.2.2 2)) d_M_turn_76 fl_M_13 (by decide) rfl rfl rfl ?_
    refine g_iload_n d_M_turn_79 3 rfl rfl ?_
    have hi1 := h.1
    have h := h.2
    refine g_iald (x := σ.1 2 x3.toNatClampNeg) d_M_turn_80 (by decide) rfl hi1 rfl ?_
    have hi2 := h.1
    have h := h.2
    refine g_iast d_M_turn_81 (by decide) rfl hi2 ?_
    refine g_iinc (L' := [(2, .int (x2 + 1)), (0, .ref (v.2.2 0)), (1, .int x1), (3, .int x3), (4, .int x4)]) d_M_turn_82 2 rfl (by rfl) (by decide) rfl ?_
    refine g_goto (tgt := 11) d_M_turn_85 rfl ?_
    exact g_sub [1, 2, 0] rfl h
  · have h := h.2 hc
    refine g_iload_n d_M_turn_33 3 rfl rfl ?_
    refine g_aload_n d_M_turn_34 0 rfl rfl ?_
    refine g_getV (x := .int (σ.1 0 2)) d_M_turn_35 fl_M_179 (by decide) rfl rfl rfl ?_
    refine g_imul d_M_turn_38 ?_
    refine g_aload_n d_M_turn_39 0 rfl rfl ?_
    refine g_getV (x := .ref (v.2.2 3)) d_M_turn_40 fl_M_20 (by decide) rfl rfl rfl ?_
    refine g_iload_n d_M_turn_43 2 rfl rfl ?_
    refine g_iload_n d_M_turn_44 1 rfl rfl ?_
    refine g_isub d_M_turn_45 ?_
    refine g_iload d_M_turn_46 4 rfl ?_
    refine g_iadd d_M_turn_48 ?_
    refine g_iconst d_M_turn_49 (x := 4) (by decide) ?_
    refine g_aload_n d_M_turn_50 0 rfl rfl ?_
    refine g_getV (x := .int (σ.1 0 7)) d_M_turn_51 fl_M_16 (by decide) rfl rfl rfl ?_
    refine g_imul d_M_turn_54 ?_
    refine g_iadd d_M_turn_55 ?_
    refine g_aload_n d_M_turn_56 0 rfl rfl ?_
    refine g_getV (x := .int (σ.1 0 7)) d_M_turn_57 fl_M_16 (by decide) rfl rfl rfl ?_
    refine g_irem d_M_turn_60 h.1 ?_
    have h := h.2
    have hi3 := h.1
    have h := h.2
    refine g_iald (x := σ.1 3 ((jR (((x2 - x1) + x4) + (4 * (σ.1 0 7))) (σ.1 0 7)).toNatClampNeg)) d_M_turn_61 (by decide) rfl hi3 rfl ?_
    refine g_iadd d_M_turn_62 ?_
    refine g_istore_n (L' := [(3, .int ((x3 * (σ.1 0 2)) + (σ.1 3 ((jR (((x2 - x1) + x4) + (4 * (σ.1 0 7))) (σ.1 0 7)).toNatClampNeg)))), (0, .ref (v.2.2 0)), (1, .int x1), (2, .int x2), (4, .int x4)]) d_M_turn_63 rfl (by decide) rfl ?_
    refine g_iinc (L' := [(4, .int (x4 + 1)), (3, .int ((x3 * (σ.1 0 2)) + (σ.1 3 ((jR (((x2 - x1) + x4) + (4 * (σ.1 0 7))) (σ.1 0 7)).toNatClampNeg)))), (0, .ref (v.2.2 0)), (1, .int x1), (2, .int x2)]) d_M_turn_64 4 rfl (by rfl) (by decide) rfl ?_
    refine g_goto (tgt := 24) d_M_turn_67 rfl ?_
    exact g_sub [2, 3, 4, 1, 0] rfl h
set_option maxRecDepth 20000 in
set_option maxHeartbeats 1000000 in
theorem T_M_turn_90 {l : Launch} {v : gs_V} {n : Nat} {post : gs_S → Prop} {σ : gs_S} {x2 : Int32} (h : (((σ.1 0 7) ≤ x2 → post σ) ∧ (¬ (σ.1 0 7) ≤ x2 → vp_in x2 64 ∧ vp_in x2 64 ∧ G_M_turn_90 l v n post (gs_pI σ 3 x2.toNatClampNeg (σ.1 4 x2.toNatClampNeg)) (x2 + 1)))) : G_M_turn_90 l v n post σ x2 := by
  refine g_iload_n d_M_turn_90 1 rfl rfl ?_
  refine g_aload_n d_M_turn_91 0 rfl rfl ?_
  refine g_getV (x := .int (σ.1 0 7)) d_M_turn_92 fl_M_16 (by decide) rfl rfl rfl ?_
  refine g_icmp_ge (tgt := 116) d_M_turn_95 rfl (fun hc => ?_) (fun hc => ?_)
  · have h := h.1 hc
    exact g_vret d_M_turn_116 rfl h
  · have h := h.2 hc
    refine g_aload_n d_M_turn_98 0 rfl rfl ?_
    refine g_getV (x := .ref (v.2.2 3)) d_M_turn_99 fl_M_20 (by decide) rfl rfl rfl ?_
    refine g_iload_n d_M_turn_102 1 rfl rfl ?_
    refine g_aload_n d_M_turn_103 0 rfl rfl ?_
    refine g_getV (x := .ref (v.2.2 4)) d_M_turn_104 fl_M_23 (by decide) rfl rfl rfl ?_
    refine g_iload_n d_M_turn_107 1 rfl rfl ?_
    have hi1 := h.1
    have h := h.2
    refine g_iald (x := σ.1 4 x2.toNatClampNeg) d_M_turn_108 (by decide) rfl hi1 rfl ?_
    have hi2 := h.1
    have h := h.2
    refine g_iast d_M_turn_109 (by decide) rfl hi2 ?_
    refine g_iinc (L' := [(2, .int (x2 + 1)), (0, .ref (v.2.2 0))]) d_M_turn_110 1 rfl (by rfl) (by decide) rfl ?_
    refine g_goto (tgt := 90) d_M_turn_113 rfl ?_
    exact g_sub [1, 0] rfl h
theorem E_M_turn {l : Launch} {v : gs_V} {n : Nat} {post : gs_S → Prop} {σ : gs_S} (h : G_M_turn_0 l v n post σ) : gM l v lyM 33 me_M_turn (n + 1) [.ref (v.2.2 0)] σ (qV v lyM 33 post) := gM_of (by decide +kernel) (Nat.le_of_ble_eq_true rfl) h
/-! LineRulesModel.undo -/
theorem d_M_undo_0 : decode me_M_undo.2.1 0 = .ok (.aload_n 0, 1) := by decide +kernel
theorem d_M_undo_1 : decode me_M_undo.2.1 1 = .ok (.getfield 179, 3) := by decide +kernel
theorem d_M_undo_4 : decode me_M_undo.2.1 4 = .ok (.ifCond .ne 5, 3) := by decide +kernel
theorem d_M_undo_7 : decode me_M_undo.2.1 7 = .ok (.iconst (-1), 1) := by decide +kernel
theorem d_M_undo_8 : decode me_M_undo.2.1 8 = .ok (.ireturn, 1) := by decide +kernel
theorem d_M_undo_9 : decode me_M_undo.2.1 9 = .ok (.aload_n 0, 1) := by decide +kernel
theorem d_M_undo_10 : decode me_M_undo.2.1 10 = .ok (.invokevirtual 245, 3) := by decide +kernel
theorem d_M_undo_13 : decode me_M_undo.2.1 13 = .ok (.aload_n 0, 1) := by decide +kernel
theorem d_M_undo_14 : decode me_M_undo.2.1 14 = .ok (.getfield 236, 3) := by decide +kernel
theorem d_M_undo_17 : decode me_M_undo.2.1 17 = .ok (.ifCond .le 31, 3) := by decide +kernel
theorem d_M_undo_20 : decode me_M_undo.2.1 20 = .ok (.iload_n 1, 1) := by decide +kernel
theorem d_M_undo_21 : decode me_M_undo.2.1 21 = .ok (.ifCond .lt 27, 3) := by decide +kernel
theorem d_M_undo_24 : decode me_M_undo.2.1 24 = .ok (.iload_n 1, 1) := by decide +kernel
theorem d_M_undo_25 : decode me_M_undo.2.1 25 = .ok (.aload_n 0, 1) := by decide +kernel
theorem d_M_undo_26 : decode me_M_undo.2.1 26 = .ok (.getfield 179, 3) := by decide +kernel
theorem d_M_undo_29 : decode me_M_undo.2.1 29 = .ok (.aload_n 0, 1) := by decide +kernel
theorem d_M_undo_30 : decode me_M_undo.2.1 30 = .ok (.getfield 236, 3) := by decide +kernel
theorem d_M_undo_33 : decode me_M_undo.2.1 33 = .ok (.invokestatic 147, 3) := by decide +kernel
theorem d_M_undo_36 : decode me_M_undo.2.1 36 = .ok (.if_icmp .ge 12, 3) := by decide +kernel
theorem d_M_undo_39 : decode me_M_undo.2.1 39 = .ok (.aload_n 0, 1) := by decide +kernel
theorem d_M_undo_40 : decode me_M_undo.2.1 40 = .ok (.getfield 72, 3) := by decide +kernel
theorem d_M_undo_43 : decode me_M_undo.2.1 43 = .ok (.iload_n 1, 1) := by decide +kernel
theorem d_M_undo_44 : decode me_M_undo.2.1 44 = .ok (.iaload, 1) := by decide +kernel
theorem d_M_undo_45 : decode me_M_undo.2.1 45 = .ok (.goto 4, 3) := by decide +kernel
theorem d_M_undo_48 : decode me_M_undo.2.1 48 = .ok (.iconst (-1), 1) := by decide +kernel
theorem d_M_undo_49 : decode me_M_undo.2.1 49 = .ok (.ireturn, 1) := by decide +kernel
abbrev G_M_undo_0 (l : Launch) (v : gs_V) (n : Nat) (post : Int32 → gs_S → Prop) (σ : gs_S) (x1 : Int32) : Prop := gG l v lyM 33 me_M_undo n (qI v lyM 33 post) 0 [(0, .ref (v.2.2 0)), (1, .int x1)] [] σ
abbrev G_M_undo_48 (l : Launch) (v : gs_V) (n : Nat) (post : Int32 → gs_S → Prop) (σ : gs_S) : Prop := gG l v lyM 33 me_M_undo n (qI v lyM 33 post) 48 [] [] σ
abbrev G_M_undo_49 (l : Launch) (v : gs_V) (n : Nat) (post : Int32 → gs_S → Prop) (σ : gs_S) (s0 : Int32) : Prop := gG l v lyM 33 me_M_undo n (qI v lyM 33 post) 49 [] [.int s0] σ
set_option maxRecDepth 20000 in
set_option maxHeartbeats 1000000 in
theorem T_M_undo_0 {l : Launch} {v : gs_V} {n : Nat} {post : Int32 → gs_S → Prop} {σ : gs_S} {x1 : Int32} (h : ((¬ (σ.1 0 2) = 0 → gM l v lyM 33 me_M_findInverse n [.ref (v.2.2 0)] σ (qV v lyM 33 (fun σ1 => (((σ1.1 0 32) ≤ 0 → G_M_undo_48 l v n post σ1) ∧ (¬ (σ1.1 0 32) ≤ 0 → ((x1 < 0 → G_M_undo_48 l v n post σ1) ∧ (¬ x1 < 0 → gM l v lyM 33 me_M_powerOf n [.int (σ1.1 0 2), .int (σ1.1 0 32)] σ1 (qI v lyM 33 (fun r2 σ2 => ((r2 ≤ x1 → G_M_undo_48 l v n post σ2) ∧ (¬ r2 ≤ x1 → vp_in x1 1024 ∧ G_M_undo_49 l v n post σ2 (σ2.1 20 x1.toNatClampNeg)))))))))))) ∧ ((σ.1 0 2) = 0 → post ((-1)) σ))) : G_M_undo_0 l v n post σ x1 := by
  refine g_aload_n d_M_undo_0 0 rfl rfl ?_
  refine g_getV (x := .int (σ.1 0 2)) d_M_undo_1 fl_M_179 (by decide) rfl rfl rfl ?_
  refine g_if_ne (tgt := 9) d_M_undo_4 rfl (fun hc => ?_) (fun hc => ?_)
  · have h := h.1 hc
    refine g_aload_n d_M_undo_9 0 rfl rfl ?_
    refine g_callVv (av := []) (rest := []) d_M_undo_10 Y_M_findInverse lk_M_245 (by decide) rfl rfl I_M_findInverse rfl (Nat.le_of_ble_eq_true rfl) rfl h (fun σ1 h => ?_)
    refine g_aload_n d_M_undo_13 0 rfl rfl ?_
    refine g_getV (x := .int (σ1.1 0 32)) d_M_undo_14 fl_M_236 (by decide) rfl rfl rfl ?_
    refine g_if_le (tgt := 48) d_M_undo_17 rfl (fun hc => ?_) (fun hc => ?_)
    · have h := h.1 hc
      exact g_sub [] rfl h
    · have h := h.2 hc
      refine g_iload_n d_M_undo_20 1 rfl rfl ?_
      refine g_if_lt (tgt := 48) d_M_undo_21 rfl (fun hc => ?_) (fun hc => ?_)
      · have h := h.1 hc
        exact g_sub [] rfl h
      · have h := h.2 hc
        refine g_iload_n d_M_undo_24 1 rfl rfl ?_
        refine g_aload_n d_M_undo_25 0 rfl rfl ?_
        refine g_getV (x := .int (σ1.1 0 2)) d_M_undo_26 fl_M_179 (by decide) rfl rfl rfl ?_
        refine g_aload_n d_M_undo_29 0 rfl rfl ?_
        refine g_getV (x := .int (σ1.1 0 32)) d_M_undo_30 fl_M_236 (by decide) rfl rfl rfl ?_
        refine g_callSi (av := [.int (σ1.1 0 2), .int (σ1.1 0 32)]) (rest := [.int x1]) d_M_undo_33 Y_M_powerOf lk_M_147 I_M_powerOf rfl (Nat.le_of_ble_eq_true rfl) rfl h (fun r2 σ2 h => ?_)
        refine g_icmp_ge (tgt := 48) d_M_undo_36 rfl (fun hc => ?_) (fun hc => ?_)
        · have h := h.1 hc
          exact g_sub [] rfl h
        · have h := h.2 hc
          refine g_aload_n d_M_undo_39 0 rfl rfl ?_
          refine g_getV (x := .ref (v.2.2 20)) d_M_undo_40 fl_M_72 (by decide) rfl rfl rfl ?_
          refine g_iload_n d_M_undo_43 1 rfl rfl ?_
          have hi3 := h.1
          have h := h.2
          refine g_iald (x := σ2.1 20 x1.toNatClampNeg) d_M_undo_44 (by decide) rfl hi3 rfl ?_
          refine g_goto (tgt := 49) d_M_undo_45 rfl ?_
          exact g_sub [] rfl h
  · have h := h.2 hc
    refine g_iconst d_M_undo_7 (x := (-1)) (by decide) ?_
    exact g_iret d_M_undo_8 rfl h
set_option maxRecDepth 20000 in
set_option maxHeartbeats 1000000 in
theorem T_M_undo_48 {l : Launch} {v : gs_V} {n : Nat} {post : Int32 → gs_S → Prop} {σ : gs_S} (h : G_M_undo_49 l v n post σ ((-1))) : G_M_undo_48 l v n post σ := by
  refine g_iconst d_M_undo_48 (x := (-1)) (by decide) ?_
  exact h
set_option maxRecDepth 20000 in
set_option maxHeartbeats 1000000 in
theorem T_M_undo_49 {l : Launch} {v : gs_V} {n : Nat} {post : Int32 → gs_S → Prop} {σ : gs_S} {s0 : Int32} (h : post s0 σ) : G_M_undo_49 l v n post σ s0 := by
  exact g_iret d_M_undo_49 rfl h
theorem E_M_undo {l : Launch} {v : gs_V} {n : Nat} {post : Int32 → gs_S → Prop} {σ : gs_S} {x1 : Int32} (h : G_M_undo_0 l v n post σ x1) : gM l v lyM 33 me_M_undo (n + 1) [.ref (v.2.2 0), .int x1] σ (qI v lyM 33 post) := gM_of (by decide +kernel) (Nat.le_of_ble_eq_true rfl) h
/-! LineRulesModel.wanted -/
theorem d_M_wanted_0 : decode me_M_wanted.2.1 0 = .ok (.aload_n 0, 1) := by decide +kernel
theorem d_M_wanted_1 : decode me_M_wanted.2.1 1 = .ok (.getfield 20, 3) := by decide +kernel
theorem d_M_wanted_4 : decode me_M_wanted.2.1 4 = .ok (.iload_n 1, 1) := by decide +kernel
theorem d_M_wanted_5 : decode me_M_wanted.2.1 5 = .ok (.aload_n 0, 1) := by decide +kernel
theorem d_M_wanted_6 : decode me_M_wanted.2.1 6 = .ok (.getfield 182, 3) := by decide +kernel
theorem d_M_wanted_9 : decode me_M_wanted.2.1 9 = .ok (.iconst 1, 1) := by decide +kernel
theorem d_M_wanted_10 : decode me_M_wanted.2.1 10 = .ok (.isub, 1) := by decide +kernel
theorem d_M_wanted_11 : decode me_M_wanted.2.1 11 = .ok (.iconst 2, 1) := by decide +kernel
theorem d_M_wanted_12 : decode me_M_wanted.2.1 12 = .ok (.idiv, 1) := by decide +kernel
theorem d_M_wanted_13 : decode me_M_wanted.2.1 13 = .ok (.iadd, 1) := by decide +kernel
theorem d_M_wanted_14 : decode me_M_wanted.2.1 14 = .ok (.aload_n 0, 1) := by decide +kernel
theorem d_M_wanted_15 : decode me_M_wanted.2.1 15 = .ok (.getfield 16, 3) := by decide +kernel
theorem d_M_wanted_18 : decode me_M_wanted.2.1 18 = .ok (.irem, 1) := by decide +kernel
theorem d_M_wanted_19 : decode me_M_wanted.2.1 19 = .ok (.iaload, 1) := by decide +kernel
theorem d_M_wanted_20 : decode me_M_wanted.2.1 20 = .ok (.ireturn, 1) := by decide +kernel
abbrev G_M_wanted_0 (l : Launch) (v : gs_V) (n : Nat) (post : Int32 → gs_S → Prop) (σ : gs_S) (x1 : Int32) : Prop := gG l v lyM 33 me_M_wanted n (qI v lyM 33 post) 0 [(0, .ref (v.2.2 0)), (1, .int x1)] [] σ
set_option maxRecDepth 20000 in
set_option maxHeartbeats 1000000 in
theorem T_M_wanted_0 {l : Launch} {v : gs_V} {n : Nat} {post : Int32 → gs_S → Prop} {σ : gs_S} {x1 : Int32} (h : ¬ (σ.1 0 7) = 0 ∧ vp_in (jR (x1 + (((σ.1 0 3) - 1) / 2)) (σ.1 0 7)) 64 ∧ post (σ.1 3 ((jR (x1 + (((σ.1 0 3) - 1) / 2)) (σ.1 0 7)).toNatClampNeg)) σ) : G_M_wanted_0 l v n post σ x1 := by
  refine g_aload_n d_M_wanted_0 0 rfl rfl ?_
  refine g_getV (x := .ref (v.2.2 3)) d_M_wanted_1 fl_M_20 (by decide) rfl rfl rfl ?_
  refine g_iload_n d_M_wanted_4 1 rfl rfl ?_
  refine g_aload_n d_M_wanted_5 0 rfl rfl ?_
  refine g_getV (x := .int (σ.1 0 3)) d_M_wanted_6 fl_M_182 (by decide) rfl rfl rfl ?_
  refine g_iconst d_M_wanted_9 (x := 1) (by decide) ?_
  refine g_isub d_M_wanted_10 ?_
  refine g_iconst d_M_wanted_11 (x := 2) (by decide) ?_
  refine g_idiv d_M_wanted_12 (by decide) ?_
  refine g_iadd d_M_wanted_13 ?_
  refine g_aload_n d_M_wanted_14 0 rfl rfl ?_
  refine g_getV (x := .int (σ.1 0 7)) d_M_wanted_15 fl_M_16 (by decide) rfl rfl rfl ?_
  refine g_irem d_M_wanted_18 h.1 ?_
  have h := h.2
  have hi1 := h.1
  have h := h.2
  refine g_iald (x := σ.1 3 ((jR (x1 + (((σ.1 0 3) - 1) / 2)) (σ.1 0 7)).toNatClampNeg)) d_M_wanted_19 (by decide) rfl hi1 rfl ?_
  exact g_iret d_M_wanted_20 rfl h
theorem E_M_wanted {l : Launch} {v : gs_V} {n : Nat} {post : Int32 → gs_S → Prop} {σ : gs_S} {x1 : Int32} (h : G_M_wanted_0 l v n post σ x1) : gM l v lyM 33 me_M_wanted (n + 1) [.ref (v.2.2 0), .int x1] σ (qI v lyM 33 post) := gM_of (by decide +kernel) (Nat.le_of_ble_eq_true rfl) h
/-! LineRulesModel.ways -/
theorem d_M_ways_0 : decode me_M_ways.2.1 0 = .ok (.aload_n 0, 1) := by decide +kernel
theorem d_M_ways_1 : decode me_M_ways.2.1 1 = .ok (.getfield 179, 3) := by decide +kernel
theorem d_M_ways_4 : decode me_M_ways.2.1 4 = .ok (.ifCond .ne 7, 3) := by decide +kernel
theorem d_M_ways_7 : decode me_M_ways.2.1 7 = .ok (.ldc2_w 276, 3) := by decide +kernel
theorem d_M_ways_10 : decode me_M_ways.2.1 10 = .ok (.lreturn, 1) := by decide +kernel
theorem d_M_ways_11 : decode me_M_ways.2.1 11 = .ok (.aload_n 0, 1) := by decide +kernel
theorem d_M_ways_12 : decode me_M_ways.2.1 12 = .ok (.invokevirtual 308, 3) := by decide +kernel
theorem d_M_ways_15 : decode me_M_ways.2.1 15 = .ok (.aload_n 0, 1) := by decide +kernel
theorem d_M_ways_16 : decode me_M_ways.2.1 16 = .ok (.getfield 294, 3) := by decide +kernel
theorem d_M_ways_19 : decode me_M_ways.2.1 19 = .ok (.lreturn, 1) := by decide +kernel
abbrev G_M_ways_0 (l : Launch) (v : gs_V) (n : Nat) (post : Int64 → gs_S → Prop) (σ : gs_S) : Prop := gG l v lyM 33 me_M_ways n (qL v lyM 33 post) 0 [(0, .ref (v.2.2 0))] [] σ
set_option maxRecDepth 20000 in
set_option maxHeartbeats 1000000 in
theorem T_M_ways_0 {l : Launch} {v : gs_V} {n : Nat} {post : Int64 → gs_S → Prop} {σ : gs_S} (h : ((¬ (σ.1 0 2) = 0 → gM l v lyM 33 me_M_findBefore n [.ref (v.2.2 0)] σ (qV v lyM 33 (fun σ1 => post (σ1.2.1 0 49) σ1))) ∧ ((σ.1 0 2) = 0 → post ((-1)) σ))) : G_M_ways_0 l v n post σ := by
  refine g_aload_n d_M_ways_0 0 rfl rfl ?_
  refine g_getV (x := .int (σ.1 0 2)) d_M_ways_1 fl_M_179 (by decide) rfl rfl rfl ?_
  refine g_if_ne (tgt := 11) d_M_ways_4 rfl (fun hc => ?_) (fun hc => ?_)
  · have h := h.1 hc
    refine g_aload_n d_M_ways_11 0 rfl rfl ?_
    refine g_callVv (av := []) (rest := []) d_M_ways_12 Y_M_findBefore lk_M_308 (by decide) rfl rfl I_M_findBefore rfl (Nat.le_of_ble_eq_true rfl) rfl h (fun σ1 h => ?_)
    refine g_aload_n d_M_ways_15 0 rfl rfl ?_
    refine g_getV (x := .long (σ1.2.1 0 49)) d_M_ways_16 fl_M_294 (by decide) rfl rfl rfl ?_
    exact g_lret d_M_ways_19 rfl h
  · have h := h.2 hc
    refine g_ldc2 d_M_ways_7 (x := (-1)) (gw_t5 (List.mem_of_getElem? (i := 172) rfl) rfl) ?_
    exact g_lret d_M_ways_10 rfl h
theorem E_M_ways {l : Launch} {v : gs_V} {n : Nat} {post : Int64 → gs_S → Prop} {σ : gs_S} (h : G_M_ways_0 l v n post σ) : gM l v lyM 33 me_M_ways (n + 1) [.ref (v.2.2 0)] σ (qL v lyM 33 post) := gM_of (by decide +kernel) (Nat.le_of_ble_eq_true rfl) h
/-! LineRulesModel.waysFrom -/
theorem d_M_waysFrom_0 : decode me_M_waysFrom.2.1 0 = .ok (.iconst 0, 1) := by decide +kernel
theorem d_M_waysFrom_1 : decode me_M_waysFrom.2.1 1 = .ok (.istore_n 2, 1) := by decide +kernel
theorem d_M_waysFrom_2 : decode me_M_waysFrom.2.1 2 = .ok (.iload_n 2, 1) := by decide +kernel
theorem d_M_waysFrom_3 : decode me_M_waysFrom.2.1 3 = .ok (.aload_n 0, 1) := by decide +kernel
theorem d_M_waysFrom_4 : decode me_M_waysFrom.2.1 4 = .ok (.getfield 188, 3) := by decide +kernel
theorem d_M_waysFrom_7 : decode me_M_waysFrom.2.1 7 = .ok (.if_icmp .ge 25, 3) := by decide +kernel
theorem d_M_waysFrom_10 : decode me_M_waysFrom.2.1 10 = .ok (.aload_n 0, 1) := by decide +kernel
theorem d_M_waysFrom_11 : decode me_M_waysFrom.2.1 11 = .ok (.getfield 103, 3) := by decide +kernel
theorem d_M_waysFrom_14 : decode me_M_waysFrom.2.1 14 = .ok (.iload_n 2, 1) := by decide +kernel
theorem d_M_waysFrom_15 : decode me_M_waysFrom.2.1 15 = .ok (.iload_n 2, 1) := by decide +kernel
theorem d_M_waysFrom_16 : decode me_M_waysFrom.2.1 16 = .ok (.iload_n 1, 1) := by decide +kernel
theorem d_M_waysFrom_17 : decode me_M_waysFrom.2.1 17 = .ok (.if_icmp .ne 7, 3) := by decide +kernel
theorem d_M_waysFrom_20 : decode me_M_waysFrom.2.1 20 = .ok (.lconst 1, 1) := by decide +kernel
theorem d_M_waysFrom_21 : decode me_M_waysFrom.2.1 21 = .ok (.goto 4, 3) := by decide +kernel
theorem d_M_waysFrom_24 : decode me_M_waysFrom.2.1 24 = .ok (.lconst 0, 1) := by decide +kernel
theorem d_M_waysFrom_25 : decode me_M_waysFrom.2.1 25 = .ok (.lastore, 1) := by decide +kernel
theorem d_M_waysFrom_26 : decode me_M_waysFrom.2.1 26 = .ok (.iinc 2 1, 3) := by decide +kernel
theorem d_M_waysFrom_29 : decode me_M_waysFrom.2.1 29 = .ok (.goto (-27), 3) := by decide +kernel
theorem d_M_waysFrom_32 : decode me_M_waysFrom.2.1 32 = .ok (.iconst 0, 1) := by decide +kernel
theorem d_M_waysFrom_33 : decode me_M_waysFrom.2.1 33 = .ok (.istore_n 2, 1) := by decide +kernel
theorem d_M_waysFrom_34 : decode me_M_waysFrom.2.1 34 = .ok (.iload_n 2, 1) := by decide +kernel
theorem d_M_waysFrom_35 : decode me_M_waysFrom.2.1 35 = .ok (.aload_n 0, 1) := by decide +kernel
theorem d_M_waysFrom_36 : decode me_M_waysFrom.2.1 36 = .ok (.getfield 16, 3) := by decide +kernel
theorem d_M_waysFrom_39 : decode me_M_waysFrom.2.1 39 = .ok (.if_icmp .ge 115, 3) := by decide +kernel
theorem d_M_waysFrom_42 : decode me_M_waysFrom.2.1 42 = .ok (.iconst 0, 1) := by decide +kernel
theorem d_M_waysFrom_43 : decode me_M_waysFrom.2.1 43 = .ok (.istore_n 3, 1) := by decide +kernel
theorem d_M_waysFrom_44 : decode me_M_waysFrom.2.1 44 = .ok (.iload_n 3, 1) := by decide +kernel
theorem d_M_waysFrom_45 : decode me_M_waysFrom.2.1 45 = .ok (.aload_n 0, 1) := by decide +kernel
theorem d_M_waysFrom_46 : decode me_M_waysFrom.2.1 46 = .ok (.getfield 188, 3) := by decide +kernel
theorem d_M_waysFrom_49 : decode me_M_waysFrom.2.1 49 = .ok (.if_icmp .ge 16, 3) := by decide +kernel
theorem d_M_waysFrom_52 : decode me_M_waysFrom.2.1 52 = .ok (.aload_n 0, 1) := by decide +kernel
theorem d_M_waysFrom_53 : decode me_M_waysFrom.2.1 53 = .ok (.getfield 106, 3) := by decide +kernel
theorem d_M_waysFrom_56 : decode me_M_waysFrom.2.1 56 = .ok (.iload_n 3, 1) := by decide +kernel
theorem d_M_waysFrom_57 : decode me_M_waysFrom.2.1 57 = .ok (.lconst 0, 1) := by decide +kernel
theorem d_M_waysFrom_58 : decode me_M_waysFrom.2.1 58 = .ok (.lastore, 1) := by decide +kernel
theorem d_M_waysFrom_59 : decode me_M_waysFrom.2.1 59 = .ok (.iinc 3 1, 3) := by decide +kernel
theorem d_M_waysFrom_62 : decode me_M_waysFrom.2.1 62 = .ok (.goto (-18), 3) := by decide +kernel
theorem d_M_waysFrom_65 : decode me_M_waysFrom.2.1 65 = .ok (.iconst 0, 1) := by decide +kernel
theorem d_M_waysFrom_66 : decode me_M_waysFrom.2.1 66 = .ok (.istore_n 3, 1) := by decide +kernel
theorem d_M_waysFrom_67 : decode me_M_waysFrom.2.1 67 = .ok (.iload_n 3, 1) := by decide +kernel
theorem d_M_waysFrom_68 : decode me_M_waysFrom.2.1 68 = .ok (.aload_n 0, 1) := by decide +kernel
theorem d_M_waysFrom_69 : decode me_M_waysFrom.2.1 69 = .ok (.getfield 185, 3) := by decide +kernel
theorem d_M_waysFrom_72 : decode me_M_waysFrom.2.1 72 = .ok (.if_icmp .ge 48, 3) := by decide +kernel
theorem d_M_waysFrom_75 : decode me_M_waysFrom.2.1 75 = .ok (.aload_n 0, 1) := by decide +kernel
theorem d_M_waysFrom_76 : decode me_M_waysFrom.2.1 76 = .ok (.getfield 13, 3) := by decide +kernel
theorem d_M_waysFrom_79 : decode me_M_waysFrom.2.1 79 = .ok (.iload_n 3, 1) := by decide +kernel
theorem d_M_waysFrom_80 : decode me_M_waysFrom.2.1 80 = .ok (.iaload, 1) := by decide +kernel
theorem d_M_waysFrom_81 : decode me_M_waysFrom.2.1 81 = .ok (.aload_n 0, 1) := by decide +kernel
theorem d_M_waysFrom_82 : decode me_M_waysFrom.2.1 82 = .ok (.iload_n 2, 1) := by decide +kernel
theorem d_M_waysFrom_83 : decode me_M_waysFrom.2.1 83 = .ok (.invokevirtual 288, 3) := by decide +kernel
theorem d_M_waysFrom_86 : decode me_M_waysFrom.2.1 86 = .ok (.if_icmp .ne 28, 3) := by decide +kernel
theorem d_M_waysFrom_89 : decode me_M_waysFrom.2.1 89 = .ok (.aload_n 0, 1) := by decide +kernel
theorem d_M_waysFrom_90 : decode me_M_waysFrom.2.1 90 = .ok (.getfield 106, 3) := by decide +kernel
theorem d_M_waysFrom_93 : decode me_M_waysFrom.2.1 93 = .ok (.iload_n 3, 1) := by decide +kernel
theorem d_M_waysFrom_94 : decode me_M_waysFrom.2.1 94 = .ok (.aload_n 0, 1) := by decide +kernel
theorem d_M_waysFrom_95 : decode me_M_waysFrom.2.1 95 = .ok (.getfield 188, 3) := by decide +kernel
theorem d_M_waysFrom_98 : decode me_M_waysFrom.2.1 98 = .ok (.irem, 1) := by decide +kernel
theorem d_M_waysFrom_99 : decode me_M_waysFrom.2.1 99 = .ok (.dup2, 1) := by decide +kernel
theorem d_M_waysFrom_100 : decode me_M_waysFrom.2.1 100 = .ok (.laload, 1) := by decide +kernel
theorem d_M_waysFrom_101 : decode me_M_waysFrom.2.1 101 = .ok (.aload_n 0, 1) := by decide +kernel
theorem d_M_waysFrom_102 : decode me_M_waysFrom.2.1 102 = .ok (.getfield 103, 3) := by decide +kernel
theorem d_M_waysFrom_105 : decode me_M_waysFrom.2.1 105 = .ok (.iload_n 3, 1) := by decide +kernel
theorem d_M_waysFrom_106 : decode me_M_waysFrom.2.1 106 = .ok (.aload_n 0, 1) := by decide +kernel
theorem d_M_waysFrom_107 : decode me_M_waysFrom.2.1 107 = .ok (.getfield 179, 3) := by decide +kernel
theorem d_M_waysFrom_110 : decode me_M_waysFrom.2.1 110 = .ok (.idiv, 1) := by decide +kernel
theorem d_M_waysFrom_111 : decode me_M_waysFrom.2.1 111 = .ok (.laload, 1) := by decide +kernel
theorem d_M_waysFrom_112 : decode me_M_waysFrom.2.1 112 = .ok (.ladd, 1) := by decide +kernel
theorem d_M_waysFrom_113 : decode me_M_waysFrom.2.1 113 = .ok (.lastore, 1) := by decide +kernel
theorem d_M_waysFrom_114 : decode me_M_waysFrom.2.1 114 = .ok (.iinc 3 1, 3) := by decide +kernel
theorem d_M_waysFrom_117 : decode me_M_waysFrom.2.1 117 = .ok (.goto (-50), 3) := by decide +kernel
theorem d_M_waysFrom_120 : decode me_M_waysFrom.2.1 120 = .ok (.iconst 0, 1) := by decide +kernel
theorem d_M_waysFrom_121 : decode me_M_waysFrom.2.1 121 = .ok (.istore_n 3, 1) := by decide +kernel
theorem d_M_waysFrom_122 : decode me_M_waysFrom.2.1 122 = .ok (.iload_n 3, 1) := by decide +kernel
theorem d_M_waysFrom_123 : decode me_M_waysFrom.2.1 123 = .ok (.aload_n 0, 1) := by decide +kernel
theorem d_M_waysFrom_124 : decode me_M_waysFrom.2.1 124 = .ok (.getfield 188, 3) := by decide +kernel
theorem d_M_waysFrom_127 : decode me_M_waysFrom.2.1 127 = .ok (.if_icmp .ge 21, 3) := by decide +kernel
theorem d_M_waysFrom_130 : decode me_M_waysFrom.2.1 130 = .ok (.aload_n 0, 1) := by decide +kernel
theorem d_M_waysFrom_131 : decode me_M_waysFrom.2.1 131 = .ok (.getfield 103, 3) := by decide +kernel
theorem d_M_waysFrom_134 : decode me_M_waysFrom.2.1 134 = .ok (.iload_n 3, 1) := by decide +kernel
theorem d_M_waysFrom_135 : decode me_M_waysFrom.2.1 135 = .ok (.aload_n 0, 1) := by decide +kernel
theorem d_M_waysFrom_136 : decode me_M_waysFrom.2.1 136 = .ok (.getfield 106, 3) := by decide +kernel
theorem d_M_waysFrom_139 : decode me_M_waysFrom.2.1 139 = .ok (.iload_n 3, 1) := by decide +kernel
theorem d_M_waysFrom_140 : decode me_M_waysFrom.2.1 140 = .ok (.laload, 1) := by decide +kernel
theorem d_M_waysFrom_141 : decode me_M_waysFrom.2.1 141 = .ok (.lastore, 1) := by decide +kernel
theorem d_M_waysFrom_142 : decode me_M_waysFrom.2.1 142 = .ok (.iinc 3 1, 3) := by decide +kernel
theorem d_M_waysFrom_145 : decode me_M_waysFrom.2.1 145 = .ok (.goto (-23), 3) := by decide +kernel
theorem d_M_waysFrom_148 : decode me_M_waysFrom.2.1 148 = .ok (.iinc 2 1, 3) := by decide +kernel
theorem d_M_waysFrom_151 : decode me_M_waysFrom.2.1 151 = .ok (.goto (-117), 3) := by decide +kernel
theorem d_M_waysFrom_154 : decode me_M_waysFrom.2.1 154 = .ok (.aload_n 0, 1) := by decide +kernel
theorem d_M_waysFrom_155 : decode me_M_waysFrom.2.1 155 = .ok (.getfield 103, 3) := by decide +kernel
theorem d_M_waysFrom_158 : decode me_M_waysFrom.2.1 158 = .ok (.iload_n 1, 1) := by decide +kernel
theorem d_M_waysFrom_159 : decode me_M_waysFrom.2.1 159 = .ok (.laload, 1) := by decide +kernel
theorem d_M_waysFrom_160 : decode me_M_waysFrom.2.1 160 = .ok (.lreturn, 1) := by decide +kernel
abbrev G_M_waysFrom_0 (l : Launch) (v : gs_V) (n : Nat) (post : Int64 → gs_S → Prop) (σ : gs_S) (x1 : Int32) : Prop := gG l v lyM 33 me_M_waysFrom n (qL v lyM 33 post) 0 [(0, .ref (v.2.2 0)), (1, .int x1)] [] σ
abbrev G_M_waysFrom_2 (l : Launch) (v : gs_V) (n : Nat) (post : Int64 → gs_S → Prop) (σ : gs_S) (x1 : Int32) (x2 : Int32) : Prop := gG l v lyM 33 me_M_waysFrom n (qL v lyM 33 post) 2 [(0, .ref (v.2.2 0)), (1, .int x1), (2, .int x2)] [] σ
abbrev G_M_waysFrom_25 (l : Launch) (v : gs_V) (n : Nat) (post : Int64 → gs_S → Prop) (σ : gs_S) (x1 : Int32) (x2 : Int32) (s0 : Int64) (s1 : Int32) : Prop := gG l v lyM 33 me_M_waysFrom n (qL v lyM 33 post) 25 [(0, .ref (v.2.2 0)), (1, .int x1), (2, .int x2)] [.long s0, .int s1, .ref (v.2.2 30)] σ
abbrev G_M_waysFrom_34 (l : Launch) (v : gs_V) (n : Nat) (post : Int64 → gs_S → Prop) (σ : gs_S) (x1 : Int32) (x2 : Int32) : Prop := gG l v lyM 33 me_M_waysFrom n (qL v lyM 33 post) 34 [(0, .ref (v.2.2 0)), (1, .int x1), (2, .int x2)] [] σ
abbrev G_M_waysFrom_44 (l : Launch) (v : gs_V) (n : Nat) (post : Int64 → gs_S → Prop) (σ : gs_S) (x1 : Int32) (x2 : Int32) (x3 : Int32) : Prop := gG l v lyM 33 me_M_waysFrom n (qL v lyM 33 post) 44 [(0, .ref (v.2.2 0)), (1, .int x1), (2, .int x2), (3, .int x3)] [] σ
abbrev G_M_waysFrom_67 (l : Launch) (v : gs_V) (n : Nat) (post : Int64 → gs_S → Prop) (σ : gs_S) (x1 : Int32) (x2 : Int32) (x3 : Int32) : Prop := gG l v lyM 33 me_M_waysFrom n (qL v lyM 33 post) 67 [(0, .ref (v.2.2 0)), (1, .int x1), (2, .int x2), (3, .int x3)] [] σ
abbrev G_M_waysFrom_114 (l : Launch) (v : gs_V) (n : Nat) (post : Int64 → gs_S → Prop) (σ : gs_S) (x1 : Int32) (x2 : Int32) (x3 : Int32) : Prop := gG l v lyM 33 me_M_waysFrom n (qL v lyM 33 post) 114 [(0, .ref (v.2.2 0)), (1, .int x1), (2, .int x2), (3, .int x3)] [] σ
abbrev G_M_waysFrom_122 (l : Launch) (v : gs_V) (n : Nat) (post : Int64 → gs_S → Prop) (σ : gs_S) (x1 : Int32) (x2 : Int32) (x3 : Int32) : Prop := gG l v lyM 33 me_M_waysFrom n (qL v lyM 33 post) 122 [(0, .ref (v.2.2 0)), (1, .int x1), (2, .int x2), (3, .int x3)] [] σ
set_option maxRecDepth 20000 in
set_option maxHeartbeats 1000000 in
theorem T_M_waysFrom_0 {l : Launch} {v : gs_V} {n : Nat} {post : Int64 → gs_S → Prop} {σ : gs_S} {x1 : Int32} (h : G_M_waysFrom_2 l v n post σ x1 0) : G_M_waysFrom_0 l v n post σ x1 := by
  refine g_iconst d_M_waysFrom_0 (x := 0) (by decide) ?_
  refine g_istore_n (L' := [(2, .int 0), (0, .ref (v.2.2 0)), (1, .int x1)]) d_M_waysFrom_1 rfl (by decide) rfl ?_
  exact g_sub [1, 2, 0] rfl h
set_option maxRecDepth 20000 in
set_option maxHeartbeats 1000000 in
theorem T_M_waysFrom_2 {l : Launch} {v : gs_V} {n : Nat} {post : Int64 → gs_S → Prop} {σ : gs_S} {x1 : Int32} {x2 : Int32} (h : (((σ.1 0 4) ≤ x2 → G_M_waysFrom_34 l v n post σ x1 0) ∧ (¬ (σ.1 0 4) ≤ x2 → ((¬ x2 = x1 → G_M_waysFrom_25 l v n post σ x1 x2 0 x2) ∧ (x2 = x1 → G_M_waysFrom_25 l v n post σ x1 x2 1 x2))))) : G_M_waysFrom_2 l v n post σ x1 x2 := by
  refine g_iload_n d_M_waysFrom_2 2 rfl rfl ?_
  refine g_aload_n d_M_waysFrom_3 0 rfl rfl ?_
  refine g_getV (x := .int (σ.1 0 4)) d_M_waysFrom_4 fl_M_188 (by decide) rfl rfl rfl ?_
  refine g_icmp_ge (tgt := 32) d_M_waysFrom_7 rfl (fun hc => ?_) (fun hc => ?_)
  · have h := h.1 hc
    refine g_iconst d_M_waysFrom_32 (x := 0) (by decide) ?_
    refine g_istore_n (L' := [(2, .int 0), (0, .ref (v.2.2 0)), (1, .int x1)]) d_M_waysFrom_33 rfl (by decide) rfl ?_
    exact g_sub [1, 2, 0] rfl h
  · have h := h.2 hc
    refine g_aload_n d_M_waysFrom_10 0 rfl rfl ?_
    refine g_getV (x := .ref (v.2.2 30)) d_M_waysFrom_11 fl_M_103 (by decide) rfl rfl rfl ?_
    refine g_iload_n d_M_waysFrom_14 2 rfl rfl ?_
    refine g_iload_n d_M_waysFrom_15 2 rfl rfl ?_
    refine g_iload_n d_M_waysFrom_16 1 rfl rfl ?_
    refine g_icmp_ne (tgt := 24) d_M_waysFrom_17 rfl (fun hc => ?_) (fun hc => ?_)
    · have h := h.1 hc
      refine g_lconst d_M_waysFrom_24 (x := 0) (by decide) ?_
      exact h
    · have h := h.2 hc
      refine g_lconst d_M_waysFrom_20 (x := 1) (by decide) ?_
      refine g_goto (tgt := 25) d_M_waysFrom_21 rfl ?_
      exact h
set_option maxRecDepth 20000 in
set_option maxHeartbeats 1000000 in
theorem T_M_waysFrom_25 {l : Launch} {v : gs_V} {n : Nat} {post : Int64 → gs_S → Prop} {σ : gs_S} {x1 : Int32} {x2 : Int32} {s0 : Int64} {s1 : Int32} (h : vp_in s1 64 ∧ G_M_waysFrom_2 l v n post (gs_pL σ 30 s1.toNatClampNeg s0) x1 (x2 + 1)) : G_M_waysFrom_25 l v n post σ x1 x2 s0 s1 := by
  have hi1 := h.1
  have h := h.2
  refine g_last d_M_waysFrom_25 (by decide) rfl hi1 ?_
  refine g_iinc (L' := [(2, .int (x2 + 1)), (0, .ref (v.2.2 0)), (1, .int x1)]) d_M_waysFrom_26 2 rfl (by rfl) (by decide) rfl ?_
  refine g_goto (tgt := 2) d_M_waysFrom_29 rfl ?_
  exact g_sub [1, 2, 0] rfl h
set_option maxRecDepth 20000 in
set_option maxHeartbeats 1000000 in
theorem T_M_waysFrom_34 {l : Launch} {v : gs_V} {n : Nat} {post : Int64 → gs_S → Prop} {σ : gs_S} {x1 : Int32} {x2 : Int32} (h : (((σ.1 0 7) ≤ x2 → vp_in x1 64 ∧ post (σ.2.1 30 x1.toNatClampNeg) σ) ∧ (¬ (σ.1 0 7) ≤ x2 → G_M_waysFrom_44 l v n post σ x1 x2 0))) : G_M_waysFrom_34 l v n post σ x1 x2 := by
  refine g_iload_n d_M_waysFrom_34 2 rfl rfl ?_
  refine g_aload_n d_M_waysFrom_35 0 rfl rfl ?_
  refine g_getV (x := .int (σ.1 0 7)) d_M_waysFrom_36 fl_M_16 (by decide) rfl rfl rfl ?_
  refine g_icmp_ge (tgt := 154) d_M_waysFrom_39 rfl (fun hc => ?_) (fun hc => ?_)
  · have h := h.1 hc
    refine g_aload_n d_M_waysFrom_154 0 rfl rfl ?_
    refine g_getV (x := .ref (v.2.2 30)) d_M_waysFrom_155 fl_M_103 (by decide) rfl rfl rfl ?_
    refine g_iload_n d_M_waysFrom_158 1 rfl rfl ?_
    have hi1 := h.1
    have h := h.2
    refine g_lald (x := σ.2.1 30 x1.toNatClampNeg) d_M_waysFrom_159 (by decide) rfl hi1 rfl ?_
    exact g_lret d_M_waysFrom_160 rfl h
  · have h := h.2 hc
    refine g_iconst d_M_waysFrom_42 (x := 0) (by decide) ?_
    refine g_istore_n (L' := [(3, .int 0), (0, .ref (v.2.2 0)), (1, .int x1), (2, .int x2)]) d_M_waysFrom_43 rfl (by decide) rfl ?_
    exact g_sub [1, 2, 3, 0] rfl h
set_option maxRecDepth 20000 in
set_option maxHeartbeats 1000000 in
theorem T_M_waysFrom_44 {l : Launch} {v : gs_V} {n : Nat} {post : Int64 → gs_S → Prop} {σ : gs_S} {x1 : Int32} {x2 : Int32} {x3 : Int32} (h : (((σ.1 0 4) ≤ x3 → G_M_waysFrom_67 l v n post σ x1 x2 0) ∧ (¬ (σ.1 0 4) ≤ x3 → vp_in x3 64 ∧ G_M_waysFrom_44 l v n post (gs_pL σ 31 x3.toNatClampNeg 0) x1 x2 (x3 + 1)))) : G_M_waysFrom_44 l v n post σ x1 x2 x3 := by
  refine g_iload_n d_M_waysFrom_44 3 rfl rfl ?_
  refine g_aload_n d_M_waysFrom_45 0 rfl rfl ?_
  refine g_getV (x := .int (σ.1 0 4)) d_M_waysFrom_46 fl_M_188 (by decide) rfl rfl rfl ?_
  refine g_icmp_ge (tgt := 65) d_M_waysFrom_49 rfl (fun hc => ?_) (fun hc => ?_)
  · have h := h.1 hc
    refine g_iconst d_M_waysFrom_65 (x := 0) (by decide) ?_
    refine g_istore_n (L' := [(3, .int 0), (0, .ref (v.2.2 0)), (1, .int x1), (2, .int x2)]) d_M_waysFrom_66 rfl (by decide) rfl ?_
    exact g_sub [1, 2, 3, 0] rfl h
  · have h := h.2 hc
    refine g_aload_n d_M_waysFrom_52 0 rfl rfl ?_
    refine g_getV (x := .ref (v.2.2 31)) d_M_waysFrom_53 fl_M_106 (by decide) rfl rfl rfl ?_
    refine g_iload_n d_M_waysFrom_56 3 rfl rfl ?_
    refine g_lconst d_M_waysFrom_57 (x := 0) (by decide) ?_
    have hi1 := h.1
    have h := h.2
    refine g_last d_M_waysFrom_58 (by decide) rfl hi1 ?_
    refine g_iinc (L' := [(3, .int (x3 + 1)), (0, .ref (v.2.2 0)), (1, .int x1), (2, .int x2)]) d_M_waysFrom_59 3 rfl (by rfl) (by decide) rfl ?_
    refine g_goto (tgt := 44) d_M_waysFrom_62 rfl ?_
    exact g_sub [1, 2, 3, 0] rfl h
set_option maxRecDepth 20000 in
set_option maxHeartbeats 1000000 in
theorem T_M_waysFrom_67 {l : Launch} {v : gs_V} {n : Nat} {post : Int64 → gs_S → Prop} {σ : gs_S} {x1 : Int32} {x2 : Int32} {x3 : Int32} (h : (((σ.1 0 5) ≤ x3 → G_M_waysFrom_122 l v n post σ x1 x2 0) ∧ (¬ (σ.1 0 5) ≤ x3 → vp_in x3 256 ∧ gM l v lyM 33 me_M_wanted n [.ref (v.2.2 0), .int x2] σ (qI v lyM 33 (fun r2 σ2 => ((¬ (σ.1 2 x3.toNatClampNeg) = r2 → G_M_waysFrom_114 l v n post σ2 x1 x2 x3) ∧ ((σ.1 2 x3.toNatClampNeg) = r2 → ¬ (σ2.1 0 4) = 0 ∧ vp_in (jR x3 (σ2.1 0 4)) 64 ∧ ¬ (σ2.1 0 2) = 0 ∧ vp_in (x3 / (σ2.1 0 2)) 64 ∧ vp_in (jR x3 (σ2.1 0 4)) 64 ∧ G_M_waysFrom_114 l v n post (gs_pL σ2 31 ((jR x3 (σ2.1 0 4)).toNatClampNeg) ((σ2.2.1 31 ((jR x3 (σ2.1 0 4)).toNatClampNeg)) + (σ2.2.1 30 ((x3 / (σ2.1 0 2)).toNatClampNeg)))) x1 x2 x3))))))) : G_M_waysFrom_67 l v n post σ x1 x2 x3 := by
  refine g_iload_n d_M_waysFrom_67 3 rfl rfl ?_
  refine g_aload_n d_M_waysFrom_68 0 rfl rfl ?_
  refine g_getV (x := .int (σ.1 0 5)) d_M_waysFrom_69 fl_M_185 (by decide) rfl rfl rfl ?_
  refine g_icmp_ge (tgt := 120) d_M_waysFrom_72 rfl (fun hc => ?_) (fun hc => ?_)
  · have h := h.1 hc
    refine g_iconst d_M_waysFrom_120 (x := 0) (by decide) ?_
    refine g_istore_n (L' := [(3, .int 0), (0, .ref (v.2.2 0)), (1, .int x1), (2, .int x2)]) d_M_waysFrom_121 rfl (by decide) rfl ?_
    exact g_sub [1, 2, 3, 0] rfl h
  · have h := h.2 hc
    refine g_aload_n d_M_waysFrom_75 0 rfl rfl ?_
    refine g_getV (x := .ref (v.2.2 2)) d_M_waysFrom_76 fl_M_13 (by decide) rfl rfl rfl ?_
    refine g_iload_n d_M_waysFrom_79 3 rfl rfl ?_
    have hi1 := h.1
    have h := h.2
    refine g_iald (x := σ.1 2 x3.toNatClampNeg) d_M_waysFrom_80 (by decide) rfl hi1 rfl ?_
    refine g_aload_n d_M_waysFrom_81 0 rfl rfl ?_
    refine g_iload_n d_M_waysFrom_82 2 rfl rfl ?_
    refine g_callVi (av := [.int x2]) (rest := [.int (σ.1 2 x3.toNatClampNeg)]) d_M_waysFrom_83 Y_M_wanted lk_M_288 (by decide) rfl rfl I_M_wanted rfl (Nat.le_of_ble_eq_true rfl) rfl h (fun r2 σ2 h => ?_)
    refine g_icmp_ne (tgt := 114) d_M_waysFrom_86 rfl (fun hc => ?_) (fun hc => ?_)
    · have h := h.1 hc
      exact h
    · have h := h.2 hc
      refine g_aload_n d_M_waysFrom_89 0 rfl rfl ?_
      refine g_getV (x := .ref (v.2.2 31)) d_M_waysFrom_90 fl_M_106 (by decide) rfl rfl rfl ?_
      refine g_iload_n d_M_waysFrom_93 3 rfl rfl ?_
      refine g_aload_n d_M_waysFrom_94 0 rfl rfl ?_
      refine g_getV (x := .int (σ2.1 0 4)) d_M_waysFrom_95 fl_M_188 (by decide) rfl rfl rfl ?_
      refine g_irem d_M_waysFrom_98 h.1 ?_
      have h := h.2
      refine g_dup2_11 d_M_waysFrom_99 rfl rfl ?_
      have hi3 := h.1
      have h := h.2
      refine g_lald (x := σ2.2.1 31 ((jR x3 (σ2.1 0 4)).toNatClampNeg)) d_M_waysFrom_100 (by decide) rfl hi3 rfl ?_
      refine g_aload_n d_M_waysFrom_101 0 rfl rfl ?_
      refine g_getV (x := .ref (v.2.2 30)) d_M_waysFrom_102 fl_M_103 (by decide) rfl rfl rfl ?_
      refine g_iload_n d_M_waysFrom_105 3 rfl rfl ?_
      refine g_aload_n d_M_waysFrom_106 0 rfl rfl ?_
      refine g_getV (x := .int (σ2.1 0 2)) d_M_waysFrom_107 fl_M_179 (by decide) rfl rfl rfl ?_
      refine g_idiv d_M_waysFrom_110 h.1 ?_
      have h := h.2
      have hi4 := h.1
      have h := h.2
      refine g_lald (x := σ2.2.1 30 ((x3 / (σ2.1 0 2)).toNatClampNeg)) d_M_waysFrom_111 (by decide) rfl hi4 rfl ?_
      refine g_ladd d_M_waysFrom_112 ?_
      have hi5 := h.1
      have h := h.2
      refine g_last d_M_waysFrom_113 (by decide) rfl hi5 ?_
      exact h
set_option maxRecDepth 20000 in
set_option maxHeartbeats 1000000 in
theorem T_M_waysFrom_114 {l : Launch} {v : gs_V} {n : Nat} {post : Int64 → gs_S → Prop} {σ : gs_S} {x1 : Int32} {x2 : Int32} {x3 : Int32} (h : G_M_waysFrom_67 l v n post σ x1 x2 (x3 + 1)) : G_M_waysFrom_114 l v n post σ x1 x2 x3 := by
  refine g_iinc (L' := [(3, .int (x3 + 1)), (0, .ref (v.2.2 0)), (1, .int x1), (2, .int x2)]) d_M_waysFrom_114 3 rfl (by rfl) (by decide) rfl ?_
  refine g_goto (tgt := 67) d_M_waysFrom_117 rfl ?_
  exact g_sub [1, 2, 3, 0] rfl h
set_option maxRecDepth 20000 in
set_option maxHeartbeats 1000000 in
theorem T_M_waysFrom_122 {l : Launch} {v : gs_V} {n : Nat} {post : Int64 → gs_S → Prop} {σ : gs_S} {x1 : Int32} {x2 : Int32} {x3 : Int32} (h : (((σ.1 0 4) ≤ x3 → G_M_waysFrom_34 l v n post σ x1 (x2 + 1)) ∧ (¬ (σ.1 0 4) ≤ x3 → vp_in x3 64 ∧ vp_in x3 64 ∧ G_M_waysFrom_122 l v n post (gs_pL σ 30 x3.toNatClampNeg (σ.2.1 31 x3.toNatClampNeg)) x1 x2 (x3 + 1)))) : G_M_waysFrom_122 l v n post σ x1 x2 x3 := by
  refine g_iload_n d_M_waysFrom_122 3 rfl rfl ?_
  refine g_aload_n d_M_waysFrom_123 0 rfl rfl ?_
  refine g_getV (x := .int (σ.1 0 4)) d_M_waysFrom_124 fl_M_188 (by decide) rfl rfl rfl ?_
  refine g_icmp_ge (tgt := 148) d_M_waysFrom_127 rfl (fun hc => ?_) (fun hc => ?_)
  · have h := h.1 hc
    refine g_iinc (L' := [(2, .int (x2 + 1)), (0, .ref (v.2.2 0)), (1, .int x1), (3, .int x3)]) d_M_waysFrom_148 2 rfl (by rfl) (by decide) rfl ?_
    refine g_goto (tgt := 34) d_M_waysFrom_151 rfl ?_
    exact g_sub [1, 2, 0] rfl h
  · have h := h.2 hc
    refine g_aload_n d_M_waysFrom_130 0 rfl rfl ?_
    refine g_getV (x := .ref (v.2.2 30)) d_M_waysFrom_131 fl_M_103 (by decide) rfl rfl rfl ?_
    refine g_iload_n d_M_waysFrom_134 3 rfl rfl ?_
    refine g_aload_n d_M_waysFrom_135 0 rfl rfl ?_
    refine g_getV (x := .ref (v.2.2 31)) d_M_waysFrom_136 fl_M_106 (by decide) rfl rfl rfl ?_
    refine g_iload_n d_M_waysFrom_139 3 rfl rfl ?_
    have hi1 := h.1
    have h := h.2
    refine g_lald (x := σ.2.1 31 x3.toNatClampNeg) d_M_waysFrom_140 (by decide) rfl hi1 rfl ?_
    have hi2 := h.1
    have h := h.2
    refine g_last d_M_waysFrom_141 (by decide) rfl hi2 ?_
    refine g_iinc (L' := [(3, .int (x3 + 1)), (0, .ref (v.2.2 0)), (1, .int x1), (2, .int x2)]) d_M_waysFrom_142 3 rfl (by rfl) (by decide) rfl ?_
    refine g_goto (tgt := 122) d_M_waysFrom_145 rfl ?_
    exact g_sub [1, 2, 3, 0] rfl h
theorem E_M_waysFrom {l : Launch} {v : gs_V} {n : Nat} {post : Int64 → gs_S → Prop} {σ : gs_S} {x1 : Int32} (h : G_M_waysFrom_0 l v n post σ x1) : gM l v lyM 33 me_M_waysFrom (n + 1) [.ref (v.2.2 0), .int x1] σ (qL v lyM 33 post) := gM_of (by decide +kernel) (Nat.le_of_ble_eq_true rfl) h
/-! LineRulesModel.weight -/
theorem d_M_weight_0 : decode me_M_weight.2.1 0 = .ok (.aload_n 0, 1) := by decide +kernel
theorem d_M_weight_1 : decode me_M_weight.2.1 1 = .ok (.getfield 179, 3) := by decide +kernel
theorem d_M_weight_4 : decode me_M_weight.2.1 4 = .ok (.ifCond .ne 5, 3) := by decide +kernel
theorem d_M_weight_7 : decode me_M_weight.2.1 7 = .ok (.iconst (-1), 1) := by decide +kernel
theorem d_M_weight_8 : decode me_M_weight.2.1 8 = .ok (.ireturn, 1) := by decide +kernel
theorem d_M_weight_9 : decode me_M_weight.2.1 9 = .ok (.aload_n 0, 1) := by decide +kernel
theorem d_M_weight_10 : decode me_M_weight.2.1 10 = .ok (.invokevirtual 267, 3) := by decide +kernel
theorem d_M_weight_13 : decode me_M_weight.2.1 13 = .ok (.iload_n 1, 1) := by decide +kernel
theorem d_M_weight_14 : decode me_M_weight.2.1 14 = .ok (.ifCond .lt 36, 3) := by decide +kernel
theorem d_M_weight_17 : decode me_M_weight.2.1 17 = .ok (.iload_n 1, 1) := by decide +kernel
theorem d_M_weight_18 : decode me_M_weight.2.1 18 = .ok (.aload_n 0, 1) := by decide +kernel
theorem d_M_weight_19 : decode me_M_weight.2.1 19 = .ok (.getfield 255, 3) := by decide +kernel
theorem d_M_weight_22 : decode me_M_weight.2.1 22 = .ok (.if_icmp .ge 28, 3) := by decide +kernel
theorem d_M_weight_25 : decode me_M_weight.2.1 25 = .ok (.iload_n 2, 1) := by decide +kernel
theorem d_M_weight_26 : decode me_M_weight.2.1 26 = .ok (.ifCond .lt 24, 3) := by decide +kernel
theorem d_M_weight_29 : decode me_M_weight.2.1 29 = .ok (.iload_n 2, 1) := by decide +kernel
theorem d_M_weight_30 : decode me_M_weight.2.1 30 = .ok (.aload_n 0, 1) := by decide +kernel
theorem d_M_weight_31 : decode me_M_weight.2.1 31 = .ok (.getfield 179, 3) := by decide +kernel
theorem d_M_weight_34 : decode me_M_weight.2.1 34 = .ok (.if_icmp .ge 16, 3) := by decide +kernel
theorem d_M_weight_37 : decode me_M_weight.2.1 37 = .ok (.aload_n 0, 1) := by decide +kernel
theorem d_M_weight_38 : decode me_M_weight.2.1 38 = .ok (.getfield 75, 3) := by decide +kernel
theorem d_M_weight_41 : decode me_M_weight.2.1 41 = .ok (.iconst 4, 1) := by decide +kernel
theorem d_M_weight_42 : decode me_M_weight.2.1 42 = .ok (.iload_n 1, 1) := by decide +kernel
theorem d_M_weight_43 : decode me_M_weight.2.1 43 = .ok (.imul, 1) := by decide +kernel
theorem d_M_weight_44 : decode me_M_weight.2.1 44 = .ok (.iload_n 2, 1) := by decide +kernel
theorem d_M_weight_45 : decode me_M_weight.2.1 45 = .ok (.iadd, 1) := by decide +kernel
theorem d_M_weight_46 : decode me_M_weight.2.1 46 = .ok (.iaload, 1) := by decide +kernel
theorem d_M_weight_47 : decode me_M_weight.2.1 47 = .ok (.goto 4, 3) := by decide +kernel
theorem d_M_weight_50 : decode me_M_weight.2.1 50 = .ok (.iconst 0, 1) := by decide +kernel
theorem d_M_weight_51 : decode me_M_weight.2.1 51 = .ok (.ireturn, 1) := by decide +kernel
abbrev G_M_weight_0 (l : Launch) (v : gs_V) (n : Nat) (post : Int32 → gs_S → Prop) (σ : gs_S) (x1 : Int32) (x2 : Int32) : Prop := gG l v lyM 33 me_M_weight n (qI v lyM 33 post) 0 [(0, .ref (v.2.2 0)), (1, .int x1), (2, .int x2)] [] σ
abbrev G_M_weight_50 (l : Launch) (v : gs_V) (n : Nat) (post : Int32 → gs_S → Prop) (σ : gs_S) : Prop := gG l v lyM 33 me_M_weight n (qI v lyM 33 post) 50 [] [] σ
abbrev G_M_weight_51 (l : Launch) (v : gs_V) (n : Nat) (post : Int32 → gs_S → Prop) (σ : gs_S) (s0 : Int32) : Prop := gG l v lyM 33 me_M_weight n (qI v lyM 33 post) 51 [] [.int s0] σ
set_option maxRecDepth 20000 in
set_option maxHeartbeats 1000000 in
theorem T_M_weight_0 {l : Launch} {v : gs_V} {n : Nat} {post : Int32 → gs_S → Prop} {σ : gs_S} {x1 : Int32} {x2 : Int32} (h : ((¬ (σ.1 0 2) = 0 → gM l v lyM 33 me_M_findWeights n [.ref (v.2.2 0)] σ (qV v lyM 33 (fun σ1 => ((x1 < 0 → G_M_weight_50 l v n post σ1) ∧ (¬ x1 < 0 → (((σ1.1 0 36) ≤ x1 → G_M_weight_50 l v n post σ1) ∧ (¬ (σ1.1 0 36) ≤ x1 → ((x2 < 0 → G_M_weight_50 l v n post σ1) ∧ (¬ x2 < 0 → (((σ1.1 0 2) ≤ x2 → G_M_weight_50 l v n post σ1) ∧ (¬ (σ1.1 0 2) ≤ x2 → vp_in ((4 * x1) + x2) 16 ∧ G_M_weight_51 l v n post σ1 (σ1.1 21 (((4 * x1) + x2).toNatClampNeg))))))))))))) ∧ ((σ.1 0 2) = 0 → post ((-1)) σ))) : G_M_weight_0 l v n post σ x1 x2 := by
  refine g_aload_n d_M_weight_0 0 rfl rfl ?_
  refine g_getV (x := .int (σ.1 0 2)) d_M_weight_1 fl_M_179 (by decide) rfl rfl rfl ?_
  refine g_if_ne (tgt := 9) d_M_weight_4 rfl (fun hc => ?_) (fun hc => ?_)
  · have h := h.1 hc
    refine g_aload_n d_M_weight_9 0 rfl rfl ?_
    refine g_callVv (av := []) (rest := []) d_M_weight_10 Y_M_findWeights lk_M_267 (by decide) rfl rfl I_M_findWeights rfl (Nat.le_of_ble_eq_true rfl) rfl h (fun σ1 h => ?_)
    refine g_iload_n d_M_weight_13 1 rfl rfl ?_
    refine g_if_lt (tgt := 50) d_M_weight_14 rfl (fun hc => ?_) (fun hc => ?_)
    · have h := h.1 hc
      exact g_sub [] rfl h
    · have h := h.2 hc
      refine g_iload_n d_M_weight_17 1 rfl rfl ?_
      refine g_aload_n d_M_weight_18 0 rfl rfl ?_
      refine g_getV (x := .int (σ1.1 0 36)) d_M_weight_19 fl_M_255 (by decide) rfl rfl rfl ?_
      refine g_icmp_ge (tgt := 50) d_M_weight_22 rfl (fun hc => ?_) (fun hc => ?_)
      · have h := h.1 hc
        exact g_sub [] rfl h
      · have h := h.2 hc
        refine g_iload_n d_M_weight_25 2 rfl rfl ?_
        refine g_if_lt (tgt := 50) d_M_weight_26 rfl (fun hc => ?_) (fun hc => ?_)
        · have h := h.1 hc
          exact g_sub [] rfl h
        · have h := h.2 hc
          refine g_iload_n d_M_weight_29 2 rfl rfl ?_
          refine g_aload_n d_M_weight_30 0 rfl rfl ?_
          refine g_getV (x := .int (σ1.1 0 2)) d_M_weight_31 fl_M_179 (by decide) rfl rfl rfl ?_
          refine g_icmp_ge (tgt := 50) d_M_weight_34 rfl (fun hc => ?_) (fun hc => ?_)
          · have h := h.1 hc
            exact g_sub [] rfl h
          · have h := h.2 hc
            refine g_aload_n d_M_weight_37 0 rfl rfl ?_
            refine g_getV (x := .ref (v.2.2 21)) d_M_weight_38 fl_M_75 (by decide) rfl rfl rfl ?_
            refine g_iconst d_M_weight_41 (x := 4) (by decide) ?_
            refine g_iload_n d_M_weight_42 1 rfl rfl ?_
            refine g_imul d_M_weight_43 ?_
            refine g_iload_n d_M_weight_44 2 rfl rfl ?_
            refine g_iadd d_M_weight_45 ?_
            have hi2 := h.1
            have h := h.2
            refine g_iald (x := σ1.1 21 (((4 * x1) + x2).toNatClampNeg)) d_M_weight_46 (by decide) rfl hi2 rfl ?_
            refine g_goto (tgt := 51) d_M_weight_47 rfl ?_
            exact g_sub [] rfl h
  · have h := h.2 hc
    refine g_iconst d_M_weight_7 (x := (-1)) (by decide) ?_
    exact g_iret d_M_weight_8 rfl h
set_option maxRecDepth 20000 in
set_option maxHeartbeats 1000000 in
theorem T_M_weight_50 {l : Launch} {v : gs_V} {n : Nat} {post : Int32 → gs_S → Prop} {σ : gs_S} (h : G_M_weight_51 l v n post σ 0) : G_M_weight_50 l v n post σ := by
  refine g_iconst d_M_weight_50 (x := 0) (by decide) ?_
  exact h
set_option maxRecDepth 20000 in
set_option maxHeartbeats 1000000 in
theorem T_M_weight_51 {l : Launch} {v : gs_V} {n : Nat} {post : Int32 → gs_S → Prop} {σ : gs_S} {s0 : Int32} (h : post s0 σ) : G_M_weight_51 l v n post σ s0 := by
  exact g_iret d_M_weight_51 rfl h
theorem E_M_weight {l : Launch} {v : gs_V} {n : Nat} {post : Int32 → gs_S → Prop} {σ : gs_S} {x1 : Int32} {x2 : Int32} (h : G_M_weight_0 l v n post σ x1 x2) : gM l v lyM 33 me_M_weight (n + 1) [.ref (v.2.2 0), .int x1, .int x2] σ (qI v lyM 33 post) := gM_of (by decide +kernel) (Nat.le_of_ble_eq_true rfl) h
/-! LineRulesModel.work -/
theorem d_M_work_0 : decode me_M_work.2.1 0 = .ok (.aload_n 0, 1) := by decide +kernel
theorem d_M_work_1 : decode me_M_work.2.1 1 = .ok (.iconst 0, 1) := by decide +kernel
theorem d_M_work_2 : decode me_M_work.2.1 2 = .ok (.putfield 115, 3) := by decide +kernel
theorem d_M_work_5 : decode me_M_work.2.1 5 = .ok (.aload_n 0, 1) := by decide +kernel
theorem d_M_work_6 : decode me_M_work.2.1 6 = .ok (.getfield 26, 3) := by decide +kernel
theorem d_M_work_9 : decode me_M_work.2.1 9 = .ok (.iconst 0, 1) := by decide +kernel
theorem d_M_work_10 : decode me_M_work.2.1 10 = .ok (.iconst 0, 1) := by decide +kernel
theorem d_M_work_11 : decode me_M_work.2.1 11 = .ok (.iastore, 1) := by decide +kernel
theorem d_M_work_12 : decode me_M_work.2.1 12 = .ok (.aload_n 0, 1) := by decide +kernel
theorem d_M_work_13 : decode me_M_work.2.1 13 = .ok (.iconst 0, 1) := by decide +kernel
theorem d_M_work_14 : decode me_M_work.2.1 14 = .ok (.invokevirtual 118, 3) := by decide +kernel
theorem d_M_work_17 : decode me_M_work.2.1 17 = .ok (.aload_n 0, 1) := by decide +kernel
theorem d_M_work_18 : decode me_M_work.2.1 18 = .ok (.iconst (-1), 1) := by decide +kernel
theorem d_M_work_19 : decode me_M_work.2.1 19 = .ok (.putfield 158, 3) := by decide +kernel
theorem d_M_work_22 : decode me_M_work.2.1 22 = .ok (.iconst 1, 1) := by decide +kernel
theorem d_M_work_23 : decode me_M_work.2.1 23 = .ok (.istore_n 2, 1) := by decide +kernel
theorem d_M_work_24 : decode me_M_work.2.1 24 = .ok (.iconst 3, 1) := by decide +kernel
theorem d_M_work_25 : decode me_M_work.2.1 25 = .ok (.istore_n 3, 1) := by decide +kernel
theorem d_M_work_26 : decode me_M_work.2.1 26 = .ok (.iload_n 3, 1) := by decide +kernel
theorem d_M_work_27 : decode me_M_work.2.1 27 = .ok (.aload_n 0, 1) := by decide +kernel
theorem d_M_work_28 : decode me_M_work.2.1 28 = .ok (.getfield 112, 3) := by decide +kernel
theorem d_M_work_31 : decode me_M_work.2.1 31 = .ok (.if_icmp .ge 90, 3) := by decide +kernel
theorem d_M_work_34 : decode me_M_work.2.1 34 = .ok (.aload_n 0, 1) := by decide +kernel
theorem d_M_work_35 : decode me_M_work.2.1 35 = .ok (.getfield 7, 3) := by decide +kernel
theorem d_M_work_38 : decode me_M_work.2.1 38 = .ok (.iload_n 3, 1) := by decide +kernel
theorem d_M_work_39 : decode me_M_work.2.1 39 = .ok (.iaload, 1) := by decide +kernel
theorem d_M_work_40 : decode me_M_work.2.1 40 = .ok (.istore 4, 2) := by decide +kernel
theorem d_M_work_42 : decode me_M_work.2.1 42 = .ok (.iload_n 2, 1) := by decide +kernel
theorem d_M_work_43 : decode me_M_work.2.1 43 = .ok (.ifCond .eq 13, 3) := by decide +kernel
theorem d_M_work_46 : decode me_M_work.2.1 46 = .ok (.aload_n 0, 1) := by decide +kernel
theorem d_M_work_47 : decode me_M_work.2.1 47 = .ok (.iload 4, 2) := by decide +kernel
theorem d_M_work_49 : decode me_M_work.2.1 49 = .ok (.iload_n 1, 1) := by decide +kernel
theorem d_M_work_50 : decode me_M_work.2.1 50 = .ok (.invokevirtual 161, 3) := by decide +kernel
theorem d_M_work_53 : decode me_M_work.2.1 53 = .ok (.goto 9, 3) := by decide +kernel
theorem d_M_work_56 : decode me_M_work.2.1 56 = .ok (.aload_n 0, 1) := by decide +kernel
theorem d_M_work_57 : decode me_M_work.2.1 57 = .ok (.iload 4, 2) := by decide +kernel
theorem d_M_work_59 : decode me_M_work.2.1 59 = .ok (.invokevirtual 165, 3) := by decide +kernel
theorem d_M_work_62 : decode me_M_work.2.1 62 = .ok (.istore 5, 2) := by decide +kernel
theorem d_M_work_64 : decode me_M_work.2.1 64 = .ok (.iload 5, 2) := by decide +kernel
theorem d_M_work_66 : decode me_M_work.2.1 66 = .ok (.ifCond .ne 10, 3) := by decide +kernel
theorem d_M_work_69 : decode me_M_work.2.1 69 = .ok (.aload_n 0, 1) := by decide +kernel
theorem d_M_work_70 : decode me_M_work.2.1 70 = .ok (.iload_n 3, 1) := by decide +kernel
theorem d_M_work_71 : decode me_M_work.2.1 71 = .ok (.putfield 158, 3) := by decide +kernel
theorem d_M_work_74 : decode me_M_work.2.1 74 = .ok (.iconst 0, 1) := by decide +kernel
theorem d_M_work_75 : decode me_M_work.2.1 75 = .ok (.ireturn, 1) := by decide +kernel
theorem d_M_work_76 : decode me_M_work.2.1 76 = .ok (.iload_n 2, 1) := by decide +kernel
theorem d_M_work_77 : decode me_M_work.2.1 77 = .ok (.ifCond .eq 25, 3) := by decide +kernel
theorem d_M_work_80 : decode me_M_work.2.1 80 = .ok (.iload 4, 2) := by decide +kernel
theorem d_M_work_82 : decode me_M_work.2.1 82 = .ok (.bipush 40, 2) := by decide +kernel
theorem d_M_work_84 : decode me_M_work.2.1 84 = .ok (.if_icmp .eq 10, 3) := by decide +kernel
theorem d_M_work_87 : decode me_M_work.2.1 87 = .ok (.iload 4, 2) := by decide +kernel
theorem d_M_work_89 : decode me_M_work.2.1 89 = .ok (.bipush 33, 2) := by decide +kernel
theorem d_M_work_91 : decode me_M_work.2.1 91 = .ok (.if_icmp .ne 7, 3) := by decide +kernel
theorem d_M_work_94 : decode me_M_work.2.1 94 = .ok (.iconst 1, 1) := by decide +kernel
theorem d_M_work_95 : decode me_M_work.2.1 95 = .ok (.goto 19, 3) := by decide +kernel
theorem d_M_work_98 : decode me_M_work.2.1 98 = .ok (.iconst 0, 1) := by decide +kernel
theorem d_M_work_99 : decode me_M_work.2.1 99 = .ok (.goto 15, 3) := by decide +kernel
theorem d_M_work_102 : decode me_M_work.2.1 102 = .ok (.iload 4, 2) := by decide +kernel
theorem d_M_work_104 : decode me_M_work.2.1 104 = .ok (.bipush 41, 2) := by decide +kernel
theorem d_M_work_106 : decode me_M_work.2.1 106 = .ok (.if_icmp .eq 7, 3) := by decide +kernel
theorem d_M_work_109 : decode me_M_work.2.1 109 = .ok (.iconst 1, 1) := by decide +kernel
theorem d_M_work_110 : decode me_M_work.2.1 110 = .ok (.goto 4, 3) := by decide +kernel
theorem d_M_work_113 : decode me_M_work.2.1 113 = .ok (.iconst 0, 1) := by decide +kernel
theorem d_M_work_114 : decode me_M_work.2.1 114 = .ok (.istore_n 2, 1) := by decide +kernel
theorem d_M_work_115 : decode me_M_work.2.1 115 = .ok (.iinc 3 1, 3) := by decide +kernel
theorem d_M_work_118 : decode me_M_work.2.1 118 = .ok (.goto (-92), 3) := by decide +kernel
theorem d_M_work_121 : decode me_M_work.2.1 121 = .ok (.iload_n 2, 1) := by decide +kernel
theorem d_M_work_122 : decode me_M_work.2.1 122 = .ok (.ifCond .eq 7, 3) := by decide +kernel
theorem d_M_work_125 : decode me_M_work.2.1 125 = .ok (.iconst 0, 1) := by decide +kernel
theorem d_M_work_126 : decode me_M_work.2.1 126 = .ok (.goto 7, 3) := by decide +kernel
theorem d_M_work_129 : decode me_M_work.2.1 129 = .ok (.aload_n 0, 1) := by decide +kernel
theorem d_M_work_130 : decode me_M_work.2.1 130 = .ok (.invokevirtual 155, 3) := by decide +kernel
theorem d_M_work_133 : decode me_M_work.2.1 133 = .ok (.istore_n 3, 1) := by decide +kernel
theorem d_M_work_134 : decode me_M_work.2.1 134 = .ok (.iload_n 2, 1) := by decide +kernel
theorem d_M_work_135 : decode me_M_work.2.1 135 = .ok (.ifCond .ne 10, 3) := by decide +kernel
theorem d_M_work_138 : decode me_M_work.2.1 138 = .ok (.aload_n 0, 1) := by decide +kernel
theorem d_M_work_139 : decode me_M_work.2.1 139 = .ok (.getfield 115, 3) := by decide +kernel
theorem d_M_work_142 : decode me_M_work.2.1 142 = .ok (.ifCond .le 11, 3) := by decide +kernel
theorem d_M_work_145 : decode me_M_work.2.1 145 = .ok (.aload_n 0, 1) := by decide +kernel
theorem d_M_work_146 : decode me_M_work.2.1 146 = .ok (.aload_n 0, 1) := by decide +kernel
theorem d_M_work_147 : decode me_M_work.2.1 147 = .ok (.getfield 112, 3) := by decide +kernel
theorem d_M_work_150 : decode me_M_work.2.1 150 = .ok (.putfield 158, 3) := by decide +kernel
theorem d_M_work_153 : decode me_M_work.2.1 153 = .ok (.iload_n 3, 1) := by decide +kernel
theorem d_M_work_154 : decode me_M_work.2.1 154 = .ok (.ireturn, 1) := by decide +kernel
abbrev G_M_work_0 (l : Launch) (v : gs_V) (n : Nat) (post : Int32 → gs_S → Prop) (σ : gs_S) (x1 : Int32) : Prop := gG l v lyM 33 me_M_work n (qI v lyM 33 post) 0 [(0, .ref (v.2.2 0)), (1, .int x1)] [] σ
abbrev G_M_work_26 (l : Launch) (v : gs_V) (n : Nat) (post : Int32 → gs_S → Prop) (σ : gs_S) (x1 : Int32) (x2 : Int32) (x3 : Int32) : Prop := gG l v lyM 33 me_M_work n (qI v lyM 33 post) 26 [(0, .ref (v.2.2 0)), (1, .int x1), (2, .int x2), (3, .int x3)] [] σ
abbrev G_M_work_62 (l : Launch) (v : gs_V) (n : Nat) (post : Int32 → gs_S → Prop) (σ : gs_S) (x1 : Int32) (x2 : Int32) (x3 : Int32) (x4 : Int32) (s0 : Int32) : Prop := gG l v lyM 33 me_M_work n (qI v lyM 33 post) 62 [(0, .ref (v.2.2 0)), (1, .int x1), (2, .int x2), (3, .int x3), (4, .int x4)] [.int s0] σ
abbrev G_M_work_94 (l : Launch) (v : gs_V) (n : Nat) (post : Int32 → gs_S → Prop) (σ : gs_S) (x1 : Int32) (x3 : Int32) : Prop := gG l v lyM 33 me_M_work n (qI v lyM 33 post) 94 [(0, .ref (v.2.2 0)), (1, .int x1), (3, .int x3)] [] σ
abbrev G_M_work_114 (l : Launch) (v : gs_V) (n : Nat) (post : Int32 → gs_S → Prop) (σ : gs_S) (x1 : Int32) (x3 : Int32) (s0 : Int32) : Prop := gG l v lyM 33 me_M_work n (qI v lyM 33 post) 114 [(0, .ref (v.2.2 0)), (1, .int x1), (3, .int x3)] [.int s0] σ
abbrev G_M_work_133 (l : Launch) (v : gs_V) (n : Nat) (post : Int32 → gs_S → Prop) (σ : gs_S) (x2 : Int32) (s0 : Int32) : Prop := gG l v lyM 33 me_M_work n (qI v lyM 33 post) 133 [(0, .ref (v.2.2 0)), (2, .int x2)] [.int s0] σ
abbrev G_M_work_145 (l : Launch) (v : gs_V) (n : Nat) (post : Int32 → gs_S → Prop) (σ : gs_S) (x3 : Int32) : Prop := gG l v lyM 33 me_M_work n (qI v lyM 33 post) 145 [(0, .ref (v.2.2 0)), (3, .int x3)] [] σ
abbrev G_M_work_153 (l : Launch) (v : gs_V) (n : Nat) (post : Int32 → gs_S → Prop) (σ : gs_S) (x3 : Int32) : Prop := gG l v lyM 33 me_M_work n (qI v lyM 33 post) 153 [(3, .int x3)] [] σ
set_option maxRecDepth 20000 in
set_option maxHeartbeats 1000000 in
theorem T_M_work_0 {l : Launch} {v : gs_V} {n : Nat} {post : Int32 → gs_S → Prop} {σ : gs_S} {x1 : Int32} (h : gM l v lyM 33 me_M_fresh n [.ref (v.2.2 0), .int 0] (gs_pI (gs_pI σ 0 13 0) 5 0 0) (qV v lyM 33 (fun σ1 => G_M_work_26 l v n post (gs_pI σ1 0 12 ((-1))) x1 1 3))) : G_M_work_0 l v n post σ x1 := by
  refine g_aload_n d_M_work_0 0 rfl rfl ?_
  refine g_iconst d_M_work_1 (x := 0) (by decide) ?_
  refine g_putI d_M_work_2 fp_M_115 (by decide) rfl rfl ⟨rfl, rfl⟩ ?_
  refine g_aload_n d_M_work_5 0 rfl rfl ?_
  refine g_getV (x := .ref (v.2.2 5)) d_M_work_6 fl_M_26 (by decide) rfl rfl rfl ?_
  refine g_iconst d_M_work_9 (x := 0) (by decide) ?_
  refine g_iconst d_M_work_10 (x := 0) (by decide) ?_
  refine g_iast d_M_work_11 (by decide) rfl (g_lit (k := 0) (by decide) (by decide)) ?_
  refine g_aload_n d_M_work_12 0 rfl rfl ?_
  refine g_iconst d_M_work_13 (x := 0) (by decide) ?_
  refine g_callVv (av := [.int 0]) (rest := []) d_M_work_14 Y_M_fresh lk_M_118 (by decide) rfl rfl I_M_fresh rfl (Nat.le_of_ble_eq_true rfl) rfl h (fun σ1 h => ?_)
  refine g_aload_n d_M_work_17 0 rfl rfl ?_
  refine g_iconst d_M_work_18 (x := (-1)) (by decide) ?_
  refine g_putI d_M_work_19 fp_M_158 (by decide) rfl rfl ⟨rfl, rfl⟩ ?_
  refine g_iconst d_M_work_22 (x := 1) (by decide) ?_
  refine g_istore_n (L' := [(2, .int 1), (0, .ref (v.2.2 0)), (1, .int x1)]) d_M_work_23 rfl (by decide) rfl ?_
  refine g_iconst d_M_work_24 (x := 3) (by decide) ?_
  refine g_istore_n (L' := [(3, .int 3), (2, .int 1), (0, .ref (v.2.2 0)), (1, .int x1)]) d_M_work_25 rfl (by decide) rfl ?_
  exact g_sub [2, 3, 1, 0] rfl h
set_option maxRecDepth 20000 in
set_option maxHeartbeats 1000000 in
theorem T_M_work_26 {l : Launch} {v : gs_V} {n : Nat} {post : Int32 → gs_S → Prop} {σ : gs_S} {x1 : Int32} {x2 : Int32} {x3 : Int32} (h : (((σ.1 0 0) ≤ x3 → ((x2 = 0 → gM l v lyM 33 me_M_endChoice n [.ref (v.2.2 0)] σ (qI v lyM 33 (fun r1 σ1 => G_M_work_133 l v n post σ1 x2 r1))) ∧ (¬ x2 = 0 → G_M_work_133 l v n post σ x2 0))) ∧ (¬ (σ.1 0 0) ≤ x3 → vp_in x3 64 ∧ ((x2 = 0 → gM l v lyM 33 me_M_goesOn n [.ref (v.2.2 0), .int (σ.1 1 x3.toNatClampNeg)] σ (qI v lyM 33 (fun r3 σ3 => G_M_work_62 l v n post σ3 x1 x2 x3 (σ.1 1 x3.toNatClampNeg) r3))) ∧ (¬ x2 = 0 → gM l v lyM 33 me_M_begins n [.ref (v.2.2 0), .int (σ.1 1 x3.toNatClampNeg), .int x1] σ (qI v lyM 33 (fun r4 σ4 => G_M_work_62 l v n post σ4 x1 x2 x3 (σ.1 1 x3.toNatClampNeg) r4))))))) : G_M_work_26 l v n post σ x1 x2 x3 := by
  refine g_iload_n d_M_work_26 3 rfl rfl ?_
  refine g_aload_n d_M_work_27 0 rfl rfl ?_
  refine g_getV (x := .int (σ.1 0 0)) d_M_work_28 fl_M_112 (by decide) rfl rfl rfl ?_
  refine g_icmp_ge (tgt := 121) d_M_work_31 rfl (fun hc => ?_) (fun hc => ?_)
  · have h := h.1 hc
    refine g_iload_n d_M_work_121 2 rfl rfl ?_
    refine g_if_eq (tgt := 129) d_M_work_122 rfl (fun hc => ?_) (fun hc => ?_)
    · have h := h.1 hc
      refine g_aload_n d_M_work_129 0 rfl rfl ?_
      refine g_callVi (av := []) (rest := []) d_M_work_130 Y_M_endChoice lk_M_155 (by decide) rfl rfl I_M_endChoice rfl (Nat.le_of_ble_eq_true rfl) rfl h (fun r1 σ1 h => ?_)
      exact g_sub [0, 2] rfl h
    · have h := h.2 hc
      refine g_iconst d_M_work_125 (x := 0) (by decide) ?_
      refine g_goto (tgt := 133) d_M_work_126 rfl ?_
      exact g_sub [0, 2] rfl h
  · have h := h.2 hc
    refine g_aload_n d_M_work_34 0 rfl rfl ?_
    refine g_getV (x := .ref (v.2.2 1)) d_M_work_35 fl_M_7 (by decide) rfl rfl rfl ?_
    refine g_iload_n d_M_work_38 3 rfl rfl ?_
    have hi2 := h.1
    have h := h.2
    refine g_iald (x := σ.1 1 x3.toNatClampNeg) d_M_work_39 (by decide) rfl hi2 rfl ?_
    refine g_istore (L' := [(4, .int (σ.1 1 x3.toNatClampNeg)), (0, .ref (v.2.2 0)), (1, .int x1), (2, .int x2), (3, .int x3)]) d_M_work_40 (by decide) rfl ?_
    refine g_iload_n d_M_work_42 3 rfl rfl ?_
    refine g_if_eq (tgt := 56) d_M_work_43 rfl (fun hc => ?_) (fun hc => ?_)
    · have h := h.1 hc
      refine g_aload_n d_M_work_56 1 rfl rfl ?_
      refine g_iload d_M_work_57 0 rfl ?_
      refine g_callVi (av := [.int (σ.1 1 x3.toNatClampNeg)]) (rest := []) d_M_work_59 Y_M_goesOn lk_M_165 (by decide) rfl rfl I_M_goesOn rfl (Nat.le_of_ble_eq_true rfl) rfl h (fun r3 σ3 h => ?_)
      exact g_sub [1, 2, 3, 4, 0] rfl h
    · have h := h.2 hc
      refine g_aload_n d_M_work_46 1 rfl rfl ?_
      refine g_iload d_M_work_47 0 rfl ?_
      refine g_iload_n d_M_work_49 2 rfl rfl ?_
      refine g_callVi (av := [.int (σ.1 1 x3.toNatClampNeg), .int x1]) (rest := []) d_M_work_50 Y_M_begins lk_M_161 (by decide) rfl rfl I_M_begins rfl (Nat.le_of_ble_eq_true rfl) rfl h (fun r4 σ4 h => ?_)
      refine g_goto (tgt := 62) d_M_work_53 rfl ?_
      exact g_sub [1, 2, 3, 4, 0] rfl h
set_option maxRecDepth 20000 in
set_option maxHeartbeats 1000000 in
theorem T_M_work_62 {l : Launch} {v : gs_V} {n : Nat} {post : Int32 → gs_S → Prop} {σ : gs_S} {x1 : Int32} {x2 : Int32} {x3 : Int32} {x4 : Int32} {s0 : Int32} (h : ((¬ s0 = 0 → ((x2 = 0 → ((x4 = 41 → G_M_work_114 l v n post σ x1 x3 0) ∧ (¬ x4 = 41 → G_M_work_114 l v n post σ x1 x3 1))) ∧ (¬ x2 = 0 → ((x4 = 40 → G_M_work_94 l v n post σ x1 x3) ∧ (¬ x4 = 40 → ((¬ x4 = 33 → G_M_work_114 l v n post σ x1 x3 0) ∧ (x4 = 33 → G_M_work_94 l v n post σ x1 x3))))))) ∧ (s0 = 0 → post 0 (gs_pI σ 0 12 x3)))) : G_M_work_62 l v n post σ x1 x2 x3 x4 s0 := by
  refine g_istore (L' := [(5, .int s0), (0, .ref (v.2.2 0)), (1, .int x1), (2, .int x2), (3, .int x3), (4, .int x4)]) d_M_work_62 (by decide) rfl ?_
  refine g_iload d_M_work_64 0 rfl ?_
  refine g_if_ne (tgt := 76) d_M_work_66 rfl (fun hc => ?_) (fun hc => ?_)
  · have h := h.1 hc
    refine g_iload_n d_M_work_76 3 rfl rfl ?_
    refine g_if_eq (tgt := 102) d_M_work_77 rfl (fun hc => ?_) (fun hc => ?_)
    · have h := h.1 hc
      refine g_iload d_M_work_102 5 rfl ?_
      refine g_bipush d_M_work_104 (x := 41) (by decide) ?_
      refine g_icmp_eq (tgt := 113) d_M_work_106 rfl (fun hc => ?_) (fun hc => ?_)
      · have h := h.1 hc
        refine g_iconst d_M_work_113 (x := 0) (by decide) ?_
        exact g_sub [1, 2, 4] rfl h
      · have h := h.2 hc
        refine g_iconst d_M_work_109 (x := 1) (by decide) ?_
        refine g_goto (tgt := 114) d_M_work_110 rfl ?_
        exact g_sub [1, 2, 4] rfl h
    · have h := h.2 hc
      refine g_iload d_M_work_80 5 rfl ?_
      refine g_bipush d_M_work_82 (x := 40) (by decide) ?_
      refine g_icmp_eq (tgt := 94) d_M_work_84 rfl (fun hc => ?_) (fun hc => ?_)
      · have h := h.1 hc
        exact g_sub [1, 2, 4] rfl h
      · have h := h.2 hc
        refine g_iload d_M_work_87 5 rfl ?_
        refine g_bipush d_M_work_89 (x := 33) (by decide) ?_
        refine g_icmp_ne (tgt := 98) d_M_work_91 rfl (fun hc => ?_) (fun hc => ?_)
        · have h := h.1 hc
          refine g_iconst d_M_work_98 (x := 0) (by decide) ?_
          refine g_goto (tgt := 114) d_M_work_99 rfl ?_
          exact g_sub [1, 2, 4] rfl h
        · have h := h.2 hc
          exact g_sub [1, 2, 4] rfl h
  · have h := h.2 hc
    refine g_aload_n d_M_work_69 1 rfl rfl ?_
    refine g_iload_n d_M_work_70 4 rfl rfl ?_
    refine g_putI d_M_work_71 fp_M_158 (by decide) rfl rfl ⟨rfl, rfl⟩ ?_
    refine g_iconst d_M_work_74 (x := 0) (by decide) ?_
    exact g_iret d_M_work_75 rfl h
set_option maxRecDepth 20000 in
set_option maxHeartbeats 1000000 in
theorem T_M_work_94 {l : Launch} {v : gs_V} {n : Nat} {post : Int32 → gs_S → Prop} {σ : gs_S} {x1 : Int32} {x3 : Int32} (h : G_M_work_114 l v n post σ x1 x3 1) : G_M_work_94 l v n post σ x1 x3 := by
  refine g_iconst d_M_work_94 (x := 1) (by decide) ?_
  refine g_goto (tgt := 114) d_M_work_95 rfl ?_
  exact h
set_option maxRecDepth 20000 in
set_option maxHeartbeats 1000000 in
theorem T_M_work_114 {l : Launch} {v : gs_V} {n : Nat} {post : Int32 → gs_S → Prop} {σ : gs_S} {x1 : Int32} {x3 : Int32} {s0 : Int32} (h : G_M_work_26 l v n post σ x1 s0 (x3 + 1)) : G_M_work_114 l v n post σ x1 x3 s0 := by
  refine g_istore_n (L' := [(2, .int s0), (0, .ref (v.2.2 0)), (1, .int x1), (3, .int x3)]) d_M_work_114 rfl (by decide) rfl ?_
  refine g_iinc (L' := [(3, .int (x3 + 1)), (2, .int s0), (0, .ref (v.2.2 0)), (1, .int x1)]) d_M_work_115 3 rfl (by rfl) (by decide) rfl ?_
  refine g_goto (tgt := 26) d_M_work_118 rfl ?_
  exact g_sub [2, 3, 1, 0] rfl h
set_option maxRecDepth 20000 in
set_option maxHeartbeats 1000000 in
theorem T_M_work_133 {l : Launch} {v : gs_V} {n : Nat} {post : Int32 → gs_S → Prop} {σ : gs_S} {x2 : Int32} {s0 : Int32} (h : ((¬ x2 = 0 → G_M_work_145 l v n post σ s0) ∧ (x2 = 0 → (((σ.1 0 13) ≤ 0 → G_M_work_153 l v n post σ s0) ∧ (¬ (σ.1 0 13) ≤ 0 → G_M_work_145 l v n post σ s0))))) : G_M_work_133 l v n post σ x2 s0 := by
  refine g_istore_n (L' := [(3, .int s0), (0, .ref (v.2.2 0)), (2, .int x2)]) d_M_work_133 rfl (by decide) rfl ?_
  refine g_iload_n d_M_work_134 2 rfl rfl ?_
  refine g_if_ne (tgt := 145) d_M_work_135 rfl (fun hc => ?_) (fun hc => ?_)
  · have h := h.1 hc
    exact g_sub [1, 0] rfl h
  · have h := h.2 hc
    refine g_aload_n d_M_work_138 1 rfl rfl ?_
    refine g_getV (x := .int (σ.1 0 13)) d_M_work_139 fl_M_115 (by decide) rfl rfl rfl ?_
    refine g_if_le (tgt := 153) d_M_work_142 rfl (fun hc => ?_) (fun hc => ?_)
    · have h := h.1 hc
      exact g_sub [0] rfl h
    · have h := h.2 hc
      exact g_sub [1, 0] rfl h
set_option maxRecDepth 20000 in
set_option maxHeartbeats 1000000 in
theorem T_M_work_145 {l : Launch} {v : gs_V} {n : Nat} {post : Int32 → gs_S → Prop} {σ : gs_S} {x3 : Int32} (h : G_M_work_153 l v n post (gs_pI σ 0 12 (σ.1 0 0)) x3) : G_M_work_145 l v n post σ x3 := by
  refine g_aload_n d_M_work_145 0 rfl rfl ?_
  refine g_aload_n d_M_work_146 0 rfl rfl ?_
  refine g_getV (x := .int (σ.1 0 0)) d_M_work_147 fl_M_112 (by decide) rfl rfl rfl ?_
  refine g_putI d_M_work_150 fp_M_158 (by decide) rfl rfl ⟨rfl, rfl⟩ ?_
  exact g_sub [1] rfl h
set_option maxRecDepth 20000 in
set_option maxHeartbeats 1000000 in
theorem T_M_work_153 {l : Launch} {v : gs_V} {n : Nat} {post : Int32 → gs_S → Prop} {σ : gs_S} {x3 : Int32} (h : post x3 σ) : G_M_work_153 l v n post σ x3 := by
  refine g_iload_n d_M_work_153 0 rfl rfl ?_
  exact g_iret d_M_work_154 rfl h
theorem E_M_work {l : Launch} {v : gs_V} {n : Nat} {post : Int32 → gs_S → Prop} {σ : gs_S} {x1 : Int32} (h : G_M_work_0 l v n post σ x1) : gM l v lyM 33 me_M_work (n + 1) [.ref (v.2.2 0), .int x1] σ (qI v lyM 33 post) := gM_of (by decide +kernel) (Nat.le_of_ble_eq_true rfl) h
