/-! LineRules$Pairs.forget -/
theorem d_P_forget_0 : decode me_P_forget.2.1 0 = .ok (.aload_n 0, 1) := by decide +kernel
theorem d_P_forget_1 : decode me_P_forget.2.1 1 = .ok (.iconst 0, 1) := by decide +kernel
theorem d_P_forget_2 : decode me_P_forget.2.1 2 = .ok (.putfield 18, 3) := by decide +kernel
theorem d_P_forget_5 : decode me_P_forget.2.1 5 = .ok (.aload_n 0, 1) := by decide +kernel
theorem d_P_forget_6 : decode me_P_forget.2.1 6 = .ok (.iconst 0, 1) := by decide +kernel
theorem d_P_forget_7 : decode me_P_forget.2.1 7 = .ok (.putfield 25, 3) := by decide +kernel
theorem d_P_forget_10 : decode me_P_forget.2.1 10 = .ok (.return_, 1) := by decide +kernel
abbrev G_P_forget_0 (l : Launch) (v : gs_V) (n : Nat) (post : gs_S → Prop) (σ : gs_S) : Prop := gG l v lyC 42 me_P_forget n (qV v lyC 42 post) 0 [(0, .ref (v.2.2 14))] [] σ
set_option maxRecDepth 20000 in
set_option maxHeartbeats 1000000 in
theorem T_P_forget_0 {l : Launch} {v : gs_V} {n : Nat} {post : gs_S → Prop} {σ : gs_S} (h : post (gs_pI (gs_pI σ 14 3 0) 14 5 0)) : G_P_forget_0 l v n post σ := by
  refine g_aload_n d_P_forget_0 0 rfl rfl ?_
  refine g_iconst d_P_forget_1 (x := 0) (by decide) ?_
  refine g_putI d_P_forget_2 fp_P_18 (by decide) rfl rfl ⟨rfl, rfl⟩ ?_
  refine g_aload_n d_P_forget_5 0 rfl rfl ?_
  refine g_iconst d_P_forget_6 (x := 0) (by decide) ?_
  refine g_putI d_P_forget_7 fp_P_25 (by decide) rfl rfl ⟨rfl, rfl⟩ ?_
  exact g_vret d_P_forget_10 rfl h
theorem E_P_forget {l : Launch} {v : gs_V} {n : Nat} {post : gs_S → Prop} {σ : gs_S} (h : G_P_forget_0 l v n post σ) : gM l v lyC 42 me_P_forget (n + 1) [.ref (v.2.2 14)] σ (qV v lyC 42 post) := gM_of (by decide +kernel) (Nat.le_of_ble_eq_true rfl) h
/-! LineRules$Pairs.lasting -/
theorem d_P_lasting_0 : decode me_P_lasting.2.1 0 = .ok (.lconst 0, 1) := by decide +kernel
theorem d_P_lasting_1 : decode me_P_lasting.2.1 1 = .ok (.lstore_n 2, 1) := by decide +kernel
theorem d_P_lasting_2 : decode me_P_lasting.2.1 2 = .ok (.iconst 0, 1) := by decide +kernel
theorem d_P_lasting_3 : decode me_P_lasting.2.1 3 = .ok (.istore 4, 2) := by decide +kernel
theorem d_P_lasting_5 : decode me_P_lasting.2.1 5 = .ok (.iload 4, 2) := by decide +kernel
theorem d_P_lasting_7 : decode me_P_lasting.2.1 7 = .ok (.aload_n 0, 1) := by decide +kernel
theorem d_P_lasting_8 : decode me_P_lasting.2.1 8 = .ok (.getfield 31, 3) := by decide +kernel
theorem d_P_lasting_11 : decode me_P_lasting.2.1 11 = .ok (.getfield 67, 3) := by decide +kernel
theorem d_P_lasting_14 : decode me_P_lasting.2.1 14 = .ok (.if_icmp .ge 94, 3) := by decide +kernel
theorem d_P_lasting_17 : decode me_P_lasting.2.1 17 = .ok (.iload_n 1, 1) := by decide +kernel
theorem d_P_lasting_18 : decode me_P_lasting.2.1 18 = .ok (.aload_n 0, 1) := by decide +kernel
theorem d_P_lasting_19 : decode me_P_lasting.2.1 19 = .ok (.getfield 31, 3) := by decide +kernel
theorem d_P_lasting_22 : decode me_P_lasting.2.1 22 = .ok (.getfield 67, 3) := by decide +kernel
theorem d_P_lasting_25 : decode me_P_lasting.2.1 25 = .ok (.imul, 1) := by decide +kernel
theorem d_P_lasting_26 : decode me_P_lasting.2.1 26 = .ok (.iload 4, 2) := by decide +kernel
theorem d_P_lasting_28 : decode me_P_lasting.2.1 28 = .ok (.iadd, 1) := by decide +kernel
theorem d_P_lasting_29 : decode me_P_lasting.2.1 29 = .ok (.istore 5, 2) := by decide +kernel
theorem d_P_lasting_31 : decode me_P_lasting.2.1 31 = .ok (.aload_n 0, 1) := by decide +kernel
theorem d_P_lasting_32 : decode me_P_lasting.2.1 32 = .ok (.getfield 9, 3) := by decide +kernel
theorem d_P_lasting_35 : decode me_P_lasting.2.1 35 = .ok (.aload_n 0, 1) := by decide +kernel
theorem d_P_lasting_36 : decode me_P_lasting.2.1 36 = .ok (.getfield 31, 3) := by decide +kernel
theorem d_P_lasting_39 : decode me_P_lasting.2.1 39 = .ok (.iload 5, 2) := by decide +kernel
theorem d_P_lasting_41 : decode me_P_lasting.2.1 41 = .ok (.invokevirtual 74, 3) := by decide +kernel
theorem d_P_lasting_44 : decode me_P_lasting.2.1 44 = .ok (.laload, 1) := by decide +kernel
theorem d_P_lasting_45 : decode me_P_lasting.2.1 45 = .ok (.lstore 6, 2) := by decide +kernel
theorem d_P_lasting_47 : decode me_P_lasting.2.1 47 = .ok (.iconst 0, 1) := by decide +kernel
theorem d_P_lasting_48 : decode me_P_lasting.2.1 48 = .ok (.istore 8, 2) := by decide +kernel
theorem d_P_lasting_50 : decode me_P_lasting.2.1 50 = .ok (.iload 8, 2) := by decide +kernel
theorem d_P_lasting_52 : decode me_P_lasting.2.1 52 = .ok (.aload_n 0, 1) := by decide +kernel
theorem d_P_lasting_53 : decode me_P_lasting.2.1 53 = .ok (.getfield 31, 3) := by decide +kernel
theorem d_P_lasting_56 : decode me_P_lasting.2.1 56 = .ok (.getfield 51, 3) := by decide +kernel
theorem d_P_lasting_59 : decode me_P_lasting.2.1 59 = .ok (.if_icmp .ge 43, 3) := by decide +kernel
theorem d_P_lasting_62 : decode me_P_lasting.2.1 62 = .ok (.aload_n 0, 1) := by decide +kernel
theorem d_P_lasting_63 : decode me_P_lasting.2.1 63 = .ok (.getfield 31, 3) := by decide +kernel
theorem d_P_lasting_66 : decode me_P_lasting.2.1 66 = .ok (.iload 8, 2) := by decide +kernel
theorem d_P_lasting_68 : decode me_P_lasting.2.1 68 = .ok (.aload_n 0, 1) := by decide +kernel
theorem d_P_lasting_69 : decode me_P_lasting.2.1 69 = .ok (.getfield 31, 3) := by decide +kernel
theorem d_P_lasting_72 : decode me_P_lasting.2.1 72 = .ok (.getfield 70, 3) := by decide +kernel
theorem d_P_lasting_75 : decode me_P_lasting.2.1 75 = .ok (.iload 5, 2) := by decide +kernel
theorem d_P_lasting_77 : decode me_P_lasting.2.1 77 = .ok (.iaload, 1) := by decide +kernel
theorem d_P_lasting_78 : decode me_P_lasting.2.1 78 = .ok (.invokevirtual 78, 3) := by decide +kernel
theorem d_P_lasting_81 : decode me_P_lasting.2.1 81 = .ok (.lload 6, 2) := by decide +kernel
theorem d_P_lasting_83 : decode me_P_lasting.2.1 83 = .ok (.land, 1) := by decide +kernel
theorem d_P_lasting_84 : decode me_P_lasting.2.1 84 = .ok (.lconst 0, 1) := by decide +kernel
theorem d_P_lasting_85 : decode me_P_lasting.2.1 85 = .ok (.lcmp, 1) := by decide +kernel
theorem d_P_lasting_86 : decode me_P_lasting.2.1 86 = .ok (.ifCond .eq 10, 3) := by decide +kernel
theorem d_P_lasting_89 : decode me_P_lasting.2.1 89 = .ok (.lload_n 2, 1) := by decide +kernel
theorem d_P_lasting_90 : decode me_P_lasting.2.1 90 = .ok (.lconst 1, 1) := by decide +kernel
theorem d_P_lasting_91 : decode me_P_lasting.2.1 91 = .ok (.iload 8, 2) := by decide +kernel
theorem d_P_lasting_93 : decode me_P_lasting.2.1 93 = .ok (.lshl, 1) := by decide +kernel
theorem d_P_lasting_94 : decode me_P_lasting.2.1 94 = .ok (.lor, 1) := by decide +kernel
theorem d_P_lasting_95 : decode me_P_lasting.2.1 95 = .ok (.lstore_n 2, 1) := by decide +kernel
theorem d_P_lasting_96 : decode me_P_lasting.2.1 96 = .ok (.iinc 8 1, 3) := by decide +kernel
theorem d_P_lasting_99 : decode me_P_lasting.2.1 99 = .ok (.goto (-49), 3) := by decide +kernel
theorem d_P_lasting_102 : decode me_P_lasting.2.1 102 = .ok (.iinc 4 1, 3) := by decide +kernel
theorem d_P_lasting_105 : decode me_P_lasting.2.1 105 = .ok (.goto (-100), 3) := by decide +kernel
theorem d_P_lasting_108 : decode me_P_lasting.2.1 108 = .ok (.lload_n 2, 1) := by decide +kernel
theorem d_P_lasting_109 : decode me_P_lasting.2.1 109 = .ok (.aload_n 0, 1) := by decide +kernel
theorem d_P_lasting_110 : decode me_P_lasting.2.1 110 = .ok (.getfield 9, 3) := by decide +kernel
theorem d_P_lasting_113 : decode me_P_lasting.2.1 113 = .ok (.iload_n 1, 1) := by decide +kernel
theorem d_P_lasting_114 : decode me_P_lasting.2.1 114 = .ok (.laload, 1) := by decide +kernel
theorem d_P_lasting_115 : decode me_P_lasting.2.1 115 = .ok (.land, 1) := by decide +kernel
theorem d_P_lasting_116 : decode me_P_lasting.2.1 116 = .ok (.lreturn, 1) := by decide +kernel
abbrev G_P_lasting_0 (l : Launch) (v : gs_V) (n : Nat) (post : Int64 → gs_S → Prop) (σ : gs_S) (x1 : Int32) : Prop := gG l v lyC 42 me_P_lasting n (qL v lyC 42 post) 0 [(0, .ref (v.2.2 14)), (1, .int x1)] [] σ
abbrev G_P_lasting_5 (l : Launch) (v : gs_V) (n : Nat) (post : Int64 → gs_S → Prop) (σ : gs_S) (x1 : Int32) (x2 : Int64) (x4 : Int32) : Prop := gG l v lyC 42 me_P_lasting n (qL v lyC 42 post) 5 [(0, .ref (v.2.2 14)), (1, .int x1), (2, .long x2), (4, .int x4)] [] σ
abbrev G_P_lasting_50 (l : Launch) (v : gs_V) (n : Nat) (post : Int64 → gs_S → Prop) (σ : gs_S) (x1 : Int32) (x2 : Int64) (x4 : Int32) (x5 : Int32) (x6 : Int64) (x8 : Int32) : Prop := gG l v lyC 42 me_P_lasting n (qL v lyC 42 post) 50 [(0, .ref (v.2.2 14)), (1, .int x1), (2, .long x2), (4, .int x4), (5, .int x5), (6, .long x6), (8, .int x8)] [] σ
abbrev G_P_lasting_96 (l : Launch) (v : gs_V) (n : Nat) (post : Int64 → gs_S → Prop) (σ : gs_S) (x1 : Int32) (x2 : Int64) (x4 : Int32) (x5 : Int32) (x6 : Int64) (x8 : Int32) : Prop := gG l v lyC 42 me_P_lasting n (qL v lyC 42 post) 96 [(0, .ref (v.2.2 14)), (1, .int x1), (2, .long x2), (4, .int x4), (5, .int x5), (6, .long x6), (8, .int x8)] [] σ
set_option maxRecDepth 20000 in
set_option maxHeartbeats 1000000 in
theorem T_P_lasting_0 {l : Launch} {v : gs_V} {n : Nat} {post : Int64 → gs_S → Prop} {σ : gs_S} {x1 : Int32} (h : G_P_lasting_5 l v n post σ x1 0 0) : G_P_lasting_0 l v n post σ x1 := by
  refine g_lconst d_P_lasting_0 (x := 0) (by decide) ?_
  refine g_lstore_n (L' := [(2, .long 0), (0, .ref (v.2.2 14)), (1, .int x1)]) d_P_lasting_1 rfl (by decide) rfl ?_
  refine g_iconst d_P_lasting_2 (x := 0) (by decide) ?_
  refine g_istore (L' := [(4, .int 0), (2, .long 0), (0, .ref (v.2.2 14)), (1, .int x1)]) d_P_lasting_3 (by decide) rfl ?_
  exact g_sub [2, 3, 1, 0] rfl h
set_option maxRecDepth 20000 in
set_option maxHeartbeats 1000000 in
theorem T_P_lasting_5 {l : Launch} {v : gs_V} {n : Nat} {post : Int64 → gs_S → Prop} {σ : gs_S} {x1 : Int32} {x2 : Int64} {x4 : Int32} (h : (((σ.1 4 6) ≤ x4 → vp_in x1 64 ∧ post (x2 &&& (σ.2.1 15 x1.toNatClampNeg)) σ) ∧ (¬ (σ.1 4 6) ≤ x4 → gM l v lyC 42 me_R_end n [.ref (v.2.2 4), .int ((x1 * (σ.1 4 6)) + x4)] σ (qI v lyC 42 (fun r2 σ2 => vp_in r2 64 ∧ G_P_lasting_50 l v n post σ2 x1 x2 x4 ((x1 * (σ.1 4 6)) + x4) (σ2.2.1 15 r2.toNatClampNeg) 0))))) : G_P_lasting_5 l v n post σ x1 x2 x4 := by
  refine g_iload d_P_lasting_5 3 rfl ?_
  refine g_aload_n d_P_lasting_7 0 rfl rfl ?_
  refine g_getV (x := .ref (v.2.2 4)) d_P_lasting_8 fl_P_31 (by decide) rfl rfl rfl ?_
  refine g_getV (x := .int (σ.1 4 6)) d_P_lasting_11 fl_P_67 (by decide) rfl rfl rfl ?_
  refine g_icmp_ge (tgt := 108) d_P_lasting_14 rfl (fun hc => ?_) (fun hc => ?_)
  · have h := h.1 hc
    refine g_lload_n d_P_lasting_108 2 rfl rfl ?_
    refine g_aload_n d_P_lasting_109 0 rfl rfl ?_
    refine g_getV (x := .ref (v.2.2 15)) d_P_lasting_110 fl_P_9 (by decide) rfl rfl rfl ?_
    refine g_iload_n d_P_lasting_113 1 rfl rfl ?_
    have hi1 := h.1
    have h := h.2
    refine g_lald (x := σ.2.1 15 x1.toNatClampNeg) d_P_lasting_114 (by decide) rfl hi1 rfl ?_
    refine g_land d_P_lasting_115 ?_
    exact g_lret d_P_lasting_116 rfl h
  · have h := h.2 hc
    refine g_iload_n d_P_lasting_17 1 rfl rfl ?_
    refine g_aload_n d_P_lasting_18 0 rfl rfl ?_
    refine g_getV (x := .ref (v.2.2 4)) d_P_lasting_19 fl_P_31 (by decide) rfl rfl rfl ?_
    refine g_getV (x := .int (σ.1 4 6)) d_P_lasting_22 fl_P_67 (by decide) rfl rfl rfl ?_
    refine g_imul d_P_lasting_25 ?_
    refine g_iload d_P_lasting_26 3 rfl ?_
    refine g_iadd d_P_lasting_28 ?_
    refine g_istore (L' := [(5, .int ((x1 * (σ.1 4 6)) + x4)), (0, .ref (v.2.2 14)), (1, .int x1), (2, .long x2), (4, .int x4)]) d_P_lasting_29 (by decide) rfl ?_
    refine g_aload_n d_P_lasting_31 1 rfl rfl ?_
    refine g_getV (x := .ref (v.2.2 15)) d_P_lasting_32 fl_P_9 (by decide) rfl rfl rfl ?_
    refine g_aload_n d_P_lasting_35 1 rfl rfl ?_
    refine g_getV (x := .ref (v.2.2 4)) d_P_lasting_36 fl_P_31 (by decide) rfl rfl rfl ?_
    refine g_iload d_P_lasting_39 0 rfl ?_
    refine g_callVi (av := [.int ((x1 * (σ.1 4 6)) + x4)]) (rest := [.ref (v.2.2 15)]) d_P_lasting_41 Y_R_end lk_P_74 (by decide) rfl rfl I_R_end rfl (Nat.le_of_ble_eq_true rfl) rfl h (fun r2 σ2 h => ?_)
    have hi3 := h.1
    have h := h.2
    refine g_lald (x := σ2.2.1 15 r2.toNatClampNeg) d_P_lasting_44 (by decide) rfl hi3 rfl ?_
    refine g_lstore (L' := [(6, .long (σ2.2.1 15 r2.toNatClampNeg)), (5, .int ((x1 * (σ.1 4 6)) + x4)), (0, .ref (v.2.2 14)), (1, .int x1), (2, .long x2), (4, .int x4)]) d_P_lasting_45 (by decide) rfl ?_
    refine g_iconst d_P_lasting_47 (x := 0) (by decide) ?_
    refine g_istore (L' := [(8, .int 0), (6, .long (σ2.2.1 15 r2.toNatClampNeg)), (5, .int ((x1 * (σ.1 4 6)) + x4)), (0, .ref (v.2.2 14)), (1, .int x1), (2, .long x2), (4, .int x4)]) d_P_lasting_48 (by decide) rfl ?_
    exact g_sub [3, 4, 5, 6, 2, 1, 0] rfl h
set_option maxRecDepth 20000 in
set_option maxHeartbeats 1000000 in
theorem T_P_lasting_50 {l : Launch} {v : gs_V} {n : Nat} {post : Int64 → gs_S → Prop} {σ : gs_S} {x1 : Int32} {x2 : Int64} {x4 : Int32} {x5 : Int32} {x6 : Int64} {x8 : Int32} (h : (((σ.1 4 9) ≤ x8 → G_P_lasting_5 l v n post σ x1 x2 (x4 + 1)) ∧ (¬ (σ.1 4 9) ≤ x8 → vp_in x5 256 ∧ gM l v lyC 42 me_R_behind n [.ref (v.2.2 4), .int x8, .int (σ.1 5 x5.toNatClampNeg)] σ (qL v lyC 42 (fun r2 σ2 => (((r2 &&& x6) = 0 → G_P_lasting_96 l v n post σ2 x1 x2 x4 x5 x6 x8) ∧ (¬ (r2 &&& x6) = 0 → G_P_lasting_96 l v n post σ2 x1 (x2 ||| (jS 1 x8)) x4 x5 x6 x8))))))) : G_P_lasting_50 l v n post σ x1 x2 x4 x5 x6 x8 := by
  refine g_iload d_P_lasting_50 6 rfl ?_
  refine g_aload_n d_P_lasting_52 0 rfl rfl ?_
  refine g_getV (x := .ref (v.2.2 4)) d_P_lasting_53 fl_P_31 (by decide) rfl rfl rfl ?_
  refine g_getV (x := .int (σ.1 4 9)) d_P_lasting_56 fl_P_51 (by decide) rfl rfl rfl ?_
  refine g_icmp_ge (tgt := 102) d_P_lasting_59 rfl (fun hc => ?_) (fun hc => ?_)
  · have h := h.1 hc
    refine g_iinc (L' := [(4, .int (x4 + 1)), (0, .ref (v.2.2 14)), (1, .int x1), (2, .long x2), (5, .int x5), (6, .long x6), (8, .int x8)]) d_P_lasting_102 3 rfl (by rfl) (by decide) rfl ?_
    refine g_goto (tgt := 5) d_P_lasting_105 rfl ?_
    exact g_sub [1, 2, 3, 0] rfl h
  · have h := h.2 hc
    refine g_aload_n d_P_lasting_62 0 rfl rfl ?_
    refine g_getV (x := .ref (v.2.2 4)) d_P_lasting_63 fl_P_31 (by decide) rfl rfl rfl ?_
    refine g_iload d_P_lasting_66 6 rfl ?_
    refine g_aload_n d_P_lasting_68 0 rfl rfl ?_
    refine g_getV (x := .ref (v.2.2 4)) d_P_lasting_69 fl_P_31 (by decide) rfl rfl rfl ?_
    refine g_getV (x := .ref (v.2.2 5)) d_P_lasting_72 fl_P_70 (by decide) rfl rfl rfl ?_
    refine g_iload d_P_lasting_75 4 rfl ?_
    have hi1 := h.1
    have h := h.2
    refine g_iald (x := σ.1 5 x5.toNatClampNeg) d_P_lasting_77 (by decide) rfl hi1 rfl ?_
    refine g_callVl (av := [.int x8, .int (σ.1 5 x5.toNatClampNeg)]) (rest := []) d_P_lasting_78 Y_R_behind lk_P_78 (by decide) rfl rfl I_R_behind rfl (Nat.le_of_ble_eq_true rfl) rfl h (fun r2 σ2 h => ?_)
    refine g_lload d_P_lasting_81 5 rfl ?_
    refine g_land d_P_lasting_83 ?_
    refine g_lconst d_P_lasting_84 (x := 0) (by decide) ?_
    refine g_lcmp_eq (tgt := 96) d_P_lasting_85 d_P_lasting_86 rfl (fun hc => ?_) (fun hc => ?_)
    · have h := h.1 hc
      exact h
    · have h := h.2 hc
      refine g_lload_n d_P_lasting_89 2 rfl rfl ?_
      refine g_lconst d_P_lasting_90 (x := 1) (by decide) ?_
      refine g_iload d_P_lasting_91 6 rfl ?_
      refine g_lshl d_P_lasting_93 ?_
      refine g_lor d_P_lasting_94 ?_
      refine g_lstore_n (L' := [(2, .long (x2 ||| (jS 1 x8))), (0, .ref (v.2.2 14)), (1, .int x1), (4, .int x4), (5, .int x5), (6, .long x6), (8, .int x8)]) d_P_lasting_95 rfl (by decide) rfl ?_
      exact g_sub [1, 2, 0, 3, 4, 5, 6] rfl h
set_option maxRecDepth 20000 in
set_option maxHeartbeats 1000000 in
theorem T_P_lasting_96 {l : Launch} {v : gs_V} {n : Nat} {post : Int64 → gs_S → Prop} {σ : gs_S} {x1 : Int32} {x2 : Int64} {x4 : Int32} {x5 : Int32} {x6 : Int64} {x8 : Int32} (h : G_P_lasting_50 l v n post σ x1 x2 x4 x5 x6 (x8 + 1)) : G_P_lasting_96 l v n post σ x1 x2 x4 x5 x6 x8 := by
  refine g_iinc (L' := [(8, .int (x8 + 1)), (0, .ref (v.2.2 14)), (1, .int x1), (2, .long x2), (4, .int x4), (5, .int x5), (6, .long x6)]) d_P_lasting_96 6 rfl (by rfl) (by decide) rfl ?_
  refine g_goto (tgt := 50) d_P_lasting_99 rfl ?_
  exact g_sub [1, 2, 3, 4, 5, 6, 0] rfl h
theorem E_P_lasting {l : Launch} {v : gs_V} {n : Nat} {post : Int64 → gs_S → Prop} {σ : gs_S} {x1 : Int32} (h : G_P_lasting_0 l v n post σ x1) : gM l v lyC 42 me_P_lasting (n + 1) [.ref (v.2.2 14), .int x1] σ (qL v lyC 42 post) := gM_of (by decide +kernel) (Nat.le_of_ble_eq_true rfl) h
/-! LineRules$Pairs.losesNothing -/
theorem d_P_losesNothing_0 : decode me_P_losesNothing.2.1 0 = .ok (.aload_n 0, 1) := by decide +kernel
theorem d_P_losesNothing_1 : decode me_P_losesNothing.2.1 1 = .ok (.getfield 25, 3) := by decide +kernel
theorem d_P_losesNothing_4 : decode me_P_losesNothing.2.1 4 = .ok (.ifCond .ne 31, 3) := by decide +kernel
theorem d_P_losesNothing_7 : decode me_P_losesNothing.2.1 7 = .ok (.aload_n 0, 1) := by decide +kernel
theorem d_P_losesNothing_8 : decode me_P_losesNothing.2.1 8 = .ok (.iconst 1, 1) := by decide +kernel
theorem d_P_losesNothing_9 : decode me_P_losesNothing.2.1 9 = .ok (.putfield 25, 3) := by decide +kernel
theorem d_P_losesNothing_12 : decode me_P_losesNothing.2.1 12 = .ok (.aload_n 0, 1) := by decide +kernel
theorem d_P_losesNothing_13 : decode me_P_losesNothing.2.1 13 = .ok (.aload_n 0, 1) := by decide +kernel
theorem d_P_losesNothing_14 : decode me_P_losesNothing.2.1 14 = .ok (.invokevirtual 39, 3) := by decide +kernel
theorem d_P_losesNothing_17 : decode me_P_losesNothing.2.1 17 = .ok (.ifCond .eq 14, 3) := by decide +kernel
theorem d_P_losesNothing_20 : decode me_P_losesNothing.2.1 20 = .ok (.aload_n 0, 1) := by decide +kernel
theorem d_P_losesNothing_21 : decode me_P_losesNothing.2.1 21 = .ok (.invokevirtual 42, 3) := by decide +kernel
theorem d_P_losesNothing_24 : decode me_P_losesNothing.2.1 24 = .ok (.ifCond .ne 7, 3) := by decide +kernel
theorem d_P_losesNothing_27 : decode me_P_losesNothing.2.1 27 = .ok (.iconst 1, 1) := by decide +kernel
theorem d_P_losesNothing_28 : decode me_P_losesNothing.2.1 28 = .ok (.goto 4, 3) := by decide +kernel
theorem d_P_losesNothing_31 : decode me_P_losesNothing.2.1 31 = .ok (.iconst 0, 1) := by decide +kernel
theorem d_P_losesNothing_32 : decode me_P_losesNothing.2.1 32 = .ok (.putfield 28, 3) := by decide +kernel
theorem d_P_losesNothing_35 : decode me_P_losesNothing.2.1 35 = .ok (.aload_n 0, 1) := by decide +kernel
theorem d_P_losesNothing_36 : decode me_P_losesNothing.2.1 36 = .ok (.getfield 28, 3) := by decide +kernel
theorem d_P_losesNothing_39 : decode me_P_losesNothing.2.1 39 = .ok (.ireturn, 1) := by decide +kernel
abbrev G_P_losesNothing_0 (l : Launch) (v : gs_V) (n : Nat) (post : Int32 → gs_S → Prop) (σ : gs_S) : Prop := gG l v lyC 42 me_P_losesNothing n (qI v lyC 42 post) 0 [(0, .ref (v.2.2 14))] [] σ
abbrev G_P_losesNothing_31 (l : Launch) (v : gs_V) (n : Nat) (post : Int32 → gs_S → Prop) (σ : gs_S) : Prop := gG l v lyC 42 me_P_losesNothing n (qI v lyC 42 post) 31 [(0, .ref (v.2.2 14))] [.ref (v.2.2 14)] σ
abbrev G_P_losesNothing_32 (l : Launch) (v : gs_V) (n : Nat) (post : Int32 → gs_S → Prop) (σ : gs_S) (s0 : Int32) : Prop := gG l v lyC 42 me_P_losesNothing n (qI v lyC 42 post) 32 [(0, .ref (v.2.2 14))] [.int s0, .ref (v.2.2 14)] σ
abbrev G_P_losesNothing_35 (l : Launch) (v : gs_V) (n : Nat) (post : Int32 → gs_S → Prop) (σ : gs_S) : Prop := gG l v lyC 42 me_P_losesNothing n (qI v lyC 42 post) 35 [(0, .ref (v.2.2 14))] [] σ
set_option maxRecDepth 20000 in
set_option maxHeartbeats 1000000 in
theorem T_P_losesNothing_0 {l : Launch} {v : gs_V} {n : Nat} {post : Int32 → gs_S → Prop} {σ : gs_S} (h : ((¬ (σ.1 14 5) = 0 → G_P_losesNothing_35 l v n post σ) ∧ ((σ.1 14 5) = 0 → gM l v lyC 42 me_P_missesNothing n [.ref (v.2.2 14)] (gs_pI σ 14 5 1) (qI v lyC 42 (fun r1 σ1 => ((r1 = 0 → G_P_losesNothing_31 l v n post σ1) ∧ (¬ r1 = 0 → gM l v lyC 42 me_P_stayApart n [.ref (v.2.2 14)] σ1 (qI v lyC 42 (fun r2 σ2 => ((¬ r2 = 0 → G_P_losesNothing_31 l v n post σ2) ∧ (r2 = 0 → G_P_losesNothing_32 l v n post σ2 1))))))))))) : G_P_losesNothing_0 l v n post σ := by
  refine g_aload_n d_P_losesNothing_0 0 rfl rfl ?_
  refine g_getV (x := .int (σ.1 14 5)) d_P_losesNothing_1 fl_P_25 (by decide) rfl rfl rfl ?_
  refine g_if_ne (tgt := 35) d_P_losesNothing_4 rfl (fun hc => ?_) (fun hc => ?_)
  · have h := h.1 hc
    exact h
  · have h := h.2 hc
    refine g_aload_n d_P_losesNothing_7 0 rfl rfl ?_
    refine g_iconst d_P_losesNothing_8 (x := 1) (by decide) ?_
    refine g_putI d_P_losesNothing_9 fp_P_25 (by decide) rfl rfl ⟨rfl, rfl⟩ ?_
    refine g_aload_n d_P_losesNothing_12 0 rfl rfl ?_
    refine g_aload_n d_P_losesNothing_13 0 rfl rfl ?_
    refine g_callVi (av := []) (rest := [.ref (v.2.2 14)]) d_P_losesNothing_14 Y_P_missesNothing lk_P_39 (by decide) rfl rfl I_P_missesNothing rfl (Nat.le_of_ble_eq_true rfl) rfl h (fun r1 σ1 h => ?_)
    refine g_if_eq (tgt := 31) d_P_losesNothing_17 rfl (fun hc => ?_) (fun hc => ?_)
    · have h := h.1 hc
      exact h
    · have h := h.2 hc
      refine g_aload_n d_P_losesNothing_20 0 rfl rfl ?_
      refine g_callVi (av := []) (rest := [.ref (v.2.2 14)]) d_P_losesNothing_21 Y_P_stayApart lk_P_42 (by decide) rfl rfl I_P_stayApart rfl (Nat.le_of_ble_eq_true rfl) rfl h (fun r2 σ2 h => ?_)
      refine g_if_ne (tgt := 31) d_P_losesNothing_24 rfl (fun hc => ?_) (fun hc => ?_)
      · have h := h.1 hc
        exact h
      · have h := h.2 hc
        refine g_iconst d_P_losesNothing_27 (x := 1) (by decide) ?_
        refine g_goto (tgt := 32) d_P_losesNothing_28 rfl ?_
        exact h
set_option maxRecDepth 20000 in
set_option maxHeartbeats 1000000 in
theorem T_P_losesNothing_31 {l : Launch} {v : gs_V} {n : Nat} {post : Int32 → gs_S → Prop} {σ : gs_S} (h : G_P_losesNothing_32 l v n post σ 0) : G_P_losesNothing_31 l v n post σ := by
  refine g_iconst d_P_losesNothing_31 (x := 0) (by decide) ?_
  exact h
set_option maxRecDepth 20000 in
set_option maxHeartbeats 1000000 in
theorem T_P_losesNothing_32 {l : Launch} {v : gs_V} {n : Nat} {post : Int32 → gs_S → Prop} {σ : gs_S} {s0 : Int32} (h : (narrow .boolean (.int s0) = .int s0 ∧ fits .boolean (.int s0) = true) ∧ G_P_losesNothing_35 l v n post (gs_pI σ 14 6 s0)) : G_P_losesNothing_32 l v n post σ s0 := by
  have hnf := h.1
  have h := h.2
  refine g_putI d_P_losesNothing_32 fp_P_28 (by decide) rfl rfl hnf ?_
  exact h
set_option maxRecDepth 20000 in
set_option maxHeartbeats 1000000 in
theorem T_P_losesNothing_35 {l : Launch} {v : gs_V} {n : Nat} {post : Int32 → gs_S → Prop} {σ : gs_S} (h : narrow .boolean (.int (σ.1 14 6)) = .int (σ.1 14 6) ∧ post (σ.1 14 6) σ) : G_P_losesNothing_35 l v n post σ := by
  refine g_aload_n d_P_losesNothing_35 0 rfl rfl ?_
  refine g_getV (x := .int (σ.1 14 6)) d_P_losesNothing_36 fl_P_28 (by decide) rfl rfl rfl ?_
  exact g_zret d_P_losesNothing_39 rfl h.1 h.2
theorem E_P_losesNothing {l : Launch} {v : gs_V} {n : Nat} {post : Int32 → gs_S → Prop} {σ : gs_S} (h : G_P_losesNothing_0 l v n post σ) : gM l v lyC 42 me_P_losesNothing (n + 1) [.ref (v.2.2 14)] σ (qI v lyC 42 post) := gM_of (by decide +kernel) (Nat.le_of_ble_eq_true rfl) h
/-! LineRules$Pairs.meetsBehind -/
theorem d_P_meetsBehind_0 : decode me_P_meetsBehind.2.1 0 = .ok (.iconst 0, 1) := by decide +kernel
theorem d_P_meetsBehind_1 : decode me_P_meetsBehind.2.1 1 = .ok (.istore 4, 2) := by decide +kernel
theorem d_P_meetsBehind_3 : decode me_P_meetsBehind.2.1 3 = .ok (.iload 4, 2) := by decide +kernel
theorem d_P_meetsBehind_5 : decode me_P_meetsBehind.2.1 5 = .ok (.aload_n 0, 1) := by decide +kernel
theorem d_P_meetsBehind_6 : decode me_P_meetsBehind.2.1 6 = .ok (.getfield 31, 3) := by decide +kernel
theorem d_P_meetsBehind_9 : decode me_P_meetsBehind.2.1 9 = .ok (.getfield 51, 3) := by decide +kernel
theorem d_P_meetsBehind_12 : decode me_P_meetsBehind.2.1 12 = .ok (.if_icmp .ge 116, 3) := by decide +kernel
theorem d_P_meetsBehind_15 : decode me_P_meetsBehind.2.1 15 = .ok (.lload_n 2, 1) := by decide +kernel
theorem d_P_meetsBehind_16 : decode me_P_meetsBehind.2.1 16 = .ok (.iload 4, 2) := by decide +kernel
theorem d_P_meetsBehind_18 : decode me_P_meetsBehind.2.1 18 = .ok (.lushr, 1) := by decide +kernel
theorem d_P_meetsBehind_19 : decode me_P_meetsBehind.2.1 19 = .ok (.lconst 1, 1) := by decide +kernel
theorem d_P_meetsBehind_20 : decode me_P_meetsBehind.2.1 20 = .ok (.land, 1) := by decide +kernel
theorem d_P_meetsBehind_21 : decode me_P_meetsBehind.2.1 21 = .ok (.lconst 0, 1) := by decide +kernel
theorem d_P_meetsBehind_22 : decode me_P_meetsBehind.2.1 22 = .ok (.lcmp, 1) := by decide +kernel
theorem d_P_meetsBehind_23 : decode me_P_meetsBehind.2.1 23 = .ok (.ifCond .ne 6, 3) := by decide +kernel
theorem d_P_meetsBehind_26 : decode me_P_meetsBehind.2.1 26 = .ok (.goto 96, 3) := by decide +kernel
theorem d_P_meetsBehind_29 : decode me_P_meetsBehind.2.1 29 = .ok (.iconst 0, 1) := by decide +kernel
theorem d_P_meetsBehind_30 : decode me_P_meetsBehind.2.1 30 = .ok (.istore 5, 2) := by decide +kernel
theorem d_P_meetsBehind_32 : decode me_P_meetsBehind.2.1 32 = .ok (.iload 5, 2) := by decide +kernel
theorem d_P_meetsBehind_34 : decode me_P_meetsBehind.2.1 34 = .ok (.aload_n 0, 1) := by decide +kernel
theorem d_P_meetsBehind_35 : decode me_P_meetsBehind.2.1 35 = .ok (.getfield 31, 3) := by decide +kernel
theorem d_P_meetsBehind_38 : decode me_P_meetsBehind.2.1 38 = .ok (.getfield 67, 3) := by decide +kernel
theorem d_P_meetsBehind_41 : decode me_P_meetsBehind.2.1 41 = .ok (.if_icmp .ge 81, 3) := by decide +kernel
theorem d_P_meetsBehind_44 : decode me_P_meetsBehind.2.1 44 = .ok (.iload_n 1, 1) := by decide +kernel
theorem d_P_meetsBehind_45 : decode me_P_meetsBehind.2.1 45 = .ok (.aload_n 0, 1) := by decide +kernel
theorem d_P_meetsBehind_46 : decode me_P_meetsBehind.2.1 46 = .ok (.getfield 31, 3) := by decide +kernel
theorem d_P_meetsBehind_49 : decode me_P_meetsBehind.2.1 49 = .ok (.getfield 67, 3) := by decide +kernel
theorem d_P_meetsBehind_52 : decode me_P_meetsBehind.2.1 52 = .ok (.imul, 1) := by decide +kernel
theorem d_P_meetsBehind_53 : decode me_P_meetsBehind.2.1 53 = .ok (.iload 5, 2) := by decide +kernel
theorem d_P_meetsBehind_55 : decode me_P_meetsBehind.2.1 55 = .ok (.iadd, 1) := by decide +kernel
theorem d_P_meetsBehind_56 : decode me_P_meetsBehind.2.1 56 = .ok (.istore 6, 2) := by decide +kernel
theorem d_P_meetsBehind_58 : decode me_P_meetsBehind.2.1 58 = .ok (.aload_n 0, 1) := by decide +kernel
theorem d_P_meetsBehind_59 : decode me_P_meetsBehind.2.1 59 = .ok (.getfield 31, 3) := by decide +kernel
theorem d_P_meetsBehind_62 : decode me_P_meetsBehind.2.1 62 = .ok (.iload 6, 2) := by decide +kernel
theorem d_P_meetsBehind_64 : decode me_P_meetsBehind.2.1 64 = .ok (.invokevirtual 74, 3) := by decide +kernel
theorem d_P_meetsBehind_67 : decode me_P_meetsBehind.2.1 67 = .ok (.istore 7, 2) := by decide +kernel
theorem d_P_meetsBehind_69 : decode me_P_meetsBehind.2.1 69 = .ok (.aload_n 0, 1) := by decide +kernel
theorem d_P_meetsBehind_70 : decode me_P_meetsBehind.2.1 70 = .ok (.getfield 31, 3) := by decide +kernel
theorem d_P_meetsBehind_73 : decode me_P_meetsBehind.2.1 73 = .ok (.iload 4, 2) := by decide +kernel
theorem d_P_meetsBehind_75 : decode me_P_meetsBehind.2.1 75 = .ok (.aload_n 0, 1) := by decide +kernel
theorem d_P_meetsBehind_76 : decode me_P_meetsBehind.2.1 76 = .ok (.getfield 31, 3) := by decide +kernel
theorem d_P_meetsBehind_79 : decode me_P_meetsBehind.2.1 79 = .ok (.getfield 70, 3) := by decide +kernel
theorem d_P_meetsBehind_82 : decode me_P_meetsBehind.2.1 82 = .ok (.iload 6, 2) := by decide +kernel
theorem d_P_meetsBehind_84 : decode me_P_meetsBehind.2.1 84 = .ok (.iaload, 1) := by decide +kernel
theorem d_P_meetsBehind_85 : decode me_P_meetsBehind.2.1 85 = .ok (.invokevirtual 78, 3) := by decide +kernel
theorem d_P_meetsBehind_88 : decode me_P_meetsBehind.2.1 88 = .ok (.lstore 8, 2) := by decide +kernel
theorem d_P_meetsBehind_90 : decode me_P_meetsBehind.2.1 90 = .ok (.lload 8, 2) := by decide +kernel
theorem d_P_meetsBehind_92 : decode me_P_meetsBehind.2.1 92 = .ok (.iload 7, 2) := by decide +kernel
theorem d_P_meetsBehind_94 : decode me_P_meetsBehind.2.1 94 = .ok (.lushr, 1) := by decide +kernel
theorem d_P_meetsBehind_95 : decode me_P_meetsBehind.2.1 95 = .ok (.lconst 1, 1) := by decide +kernel
theorem d_P_meetsBehind_96 : decode me_P_meetsBehind.2.1 96 = .ok (.land, 1) := by decide +kernel
theorem d_P_meetsBehind_97 : decode me_P_meetsBehind.2.1 97 = .ok (.lconst 0, 1) := by decide +kernel
theorem d_P_meetsBehind_98 : decode me_P_meetsBehind.2.1 98 = .ok (.lcmp, 1) := by decide +kernel
theorem d_P_meetsBehind_99 : decode me_P_meetsBehind.2.1 99 = .ok (.ifCond .eq 5, 3) := by decide +kernel
theorem d_P_meetsBehind_102 : decode me_P_meetsBehind.2.1 102 = .ok (.iconst 1, 1) := by decide +kernel
theorem d_P_meetsBehind_103 : decode me_P_meetsBehind.2.1 103 = .ok (.ireturn, 1) := by decide +kernel
theorem d_P_meetsBehind_104 : decode me_P_meetsBehind.2.1 104 = .ok (.aload_n 0, 1) := by decide +kernel
theorem d_P_meetsBehind_105 : decode me_P_meetsBehind.2.1 105 = .ok (.getfield 9, 3) := by decide +kernel
theorem d_P_meetsBehind_108 : decode me_P_meetsBehind.2.1 108 = .ok (.iload 7, 2) := by decide +kernel
theorem d_P_meetsBehind_110 : decode me_P_meetsBehind.2.1 110 = .ok (.dup2, 1) := by decide +kernel
theorem d_P_meetsBehind_111 : decode me_P_meetsBehind.2.1 111 = .ok (.laload, 1) := by decide +kernel
theorem d_P_meetsBehind_112 : decode me_P_meetsBehind.2.1 112 = .ok (.lload 8, 2) := by decide +kernel
theorem d_P_meetsBehind_114 : decode me_P_meetsBehind.2.1 114 = .ok (.lor, 1) := by decide +kernel
theorem d_P_meetsBehind_115 : decode me_P_meetsBehind.2.1 115 = .ok (.lastore, 1) := by decide +kernel
theorem d_P_meetsBehind_116 : decode me_P_meetsBehind.2.1 116 = .ok (.iinc 5 1, 3) := by decide +kernel
theorem d_P_meetsBehind_119 : decode me_P_meetsBehind.2.1 119 = .ok (.goto (-87), 3) := by decide +kernel
theorem d_P_meetsBehind_122 : decode me_P_meetsBehind.2.1 122 = .ok (.iinc 4 1, 3) := by decide +kernel
theorem d_P_meetsBehind_125 : decode me_P_meetsBehind.2.1 125 = .ok (.goto (-122), 3) := by decide +kernel
theorem d_P_meetsBehind_128 : decode me_P_meetsBehind.2.1 128 = .ok (.iconst 0, 1) := by decide +kernel
theorem d_P_meetsBehind_129 : decode me_P_meetsBehind.2.1 129 = .ok (.ireturn, 1) := by decide +kernel
abbrev G_P_meetsBehind_0 (l : Launch) (v : gs_V) (n : Nat) (post : Int32 → gs_S → Prop) (σ : gs_S) (x1 : Int32) (x2 : Int64) : Prop := gG l v lyC 42 me_P_meetsBehind n (qI v lyC 42 post) 0 [(0, .ref (v.2.2 14)), (1, .int x1), (2, .long x2)] [] σ
abbrev G_P_meetsBehind_3 (l : Launch) (v : gs_V) (n : Nat) (post : Int32 → gs_S → Prop) (σ : gs_S) (x1 : Int32) (x2 : Int64) (x4 : Int32) : Prop := gG l v lyC 42 me_P_meetsBehind n (qI v lyC 42 post) 3 [(0, .ref (v.2.2 14)), (1, .int x1), (2, .long x2), (4, .int x4)] [] σ
abbrev G_P_meetsBehind_32 (l : Launch) (v : gs_V) (n : Nat) (post : Int32 → gs_S → Prop) (σ : gs_S) (x1 : Int32) (x2 : Int64) (x4 : Int32) (x5 : Int32) : Prop := gG l v lyC 42 me_P_meetsBehind n (qI v lyC 42 post) 32 [(0, .ref (v.2.2 14)), (1, .int x1), (2, .long x2), (4, .int x4), (5, .int x5)] [] σ
abbrev G_P_meetsBehind_122 (l : Launch) (v : gs_V) (n : Nat) (post : Int32 → gs_S → Prop) (σ : gs_S) (x1 : Int32) (x2 : Int64) (x4 : Int32) : Prop := gG l v lyC 42 me_P_meetsBehind n (qI v lyC 42 post) 122 [(0, .ref (v.2.2 14)), (1, .int x1), (2, .long x2), (4, .int x4)] [] σ
set_option maxRecDepth 20000 in
set_option maxHeartbeats 1000000 in
theorem T_P_meetsBehind_0 {l : Launch} {v : gs_V} {n : Nat} {post : Int32 → gs_S → Prop} {σ : gs_S} {x1 : Int32} {x2 : Int64} (h : G_P_meetsBehind_3 l v n post σ x1 x2 0) : G_P_meetsBehind_0 l v n post σ x1 x2 := by
  refine g_iconst d_P_meetsBehind_0 (x := 0) (by decide) ?_
  refine g_istore (L' := [(4, .int 0), (0, .ref (v.2.2 14)), (1, .int x1), (2, .long x2)]) d_P_meetsBehind_1 (by decide) rfl ?_
  exact g_sub [1, 2, 3, 0] rfl h
set_option maxRecDepth 20000 in
set_option maxHeartbeats 1000000 in
theorem T_P_meetsBehind_3 {l : Launch} {v : gs_V} {n : Nat} {post : Int32 → gs_S → Prop} {σ : gs_S} {x1 : Int32} {x2 : Int64} {x4 : Int32} (h : (((σ.1 4 9) ≤ x4 → post 0 σ) ∧ (¬ (σ.1 4 9) ≤ x4 → ((¬ ((jU x2 x4) &&& 1) = 0 → G_P_meetsBehind_32 l v n post σ x1 x2 x4 0) ∧ (((jU x2 x4) &&& 1) = 0 → G_P_meetsBehind_122 l v n post σ x1 x2 x4))))) : G_P_meetsBehind_3 l v n post σ x1 x2 x4 := by
  refine g_iload d_P_meetsBehind_3 3 rfl ?_
  refine g_aload_n d_P_meetsBehind_5 0 rfl rfl ?_
  refine g_getV (x := .ref (v.2.2 4)) d_P_meetsBehind_6 fl_P_31 (by decide) rfl rfl rfl ?_
  refine g_getV (x := .int (σ.1 4 9)) d_P_meetsBehind_9 fl_P_51 (by decide) rfl rfl rfl ?_
  refine g_icmp_ge (tgt := 128) d_P_meetsBehind_12 rfl (fun hc => ?_) (fun hc => ?_)
  · have h := h.1 hc
    refine g_iconst d_P_meetsBehind_128 (x := 0) (by decide) ?_
    exact g_zret d_P_meetsBehind_129 rfl rfl h
  · have h := h.2 hc
    refine g_lload_n d_P_meetsBehind_15 2 rfl rfl ?_
    refine g_iload d_P_meetsBehind_16 3 rfl ?_
    refine g_lushr d_P_meetsBehind_18 ?_
    refine g_lconst d_P_meetsBehind_19 (x := 1) (by decide) ?_
    refine g_land d_P_meetsBehind_20 ?_
    refine g_lconst d_P_meetsBehind_21 (x := 0) (by decide) ?_
    refine g_lcmp_ne (tgt := 29) d_P_meetsBehind_22 d_P_meetsBehind_23 rfl (fun hc => ?_) (fun hc => ?_)
    · have h := h.1 hc
      refine g_iconst d_P_meetsBehind_29 (x := 0) (by decide) ?_
      refine g_istore (L' := [(5, .int 0), (0, .ref (v.2.2 14)), (1, .int x1), (2, .long x2), (4, .int x4)]) d_P_meetsBehind_30 (by decide) rfl ?_
      exact g_sub [1, 2, 3, 4, 0] rfl h
    · have h := h.2 hc
      refine g_goto (tgt := 122) d_P_meetsBehind_26 rfl ?_
      exact h
set_option maxRecDepth 20000 in
set_option maxHeartbeats 1000000 in
theorem T_P_meetsBehind_32 {l : Launch} {v : gs_V} {n : Nat} {post : Int32 → gs_S → Prop} {σ : gs_S} {x1 : Int32} {x2 : Int64} {x4 : Int32} {x5 : Int32} (h : (((σ.1 4 6) ≤ x5 → G_P_meetsBehind_122 l v n post σ x1 x2 x4) ∧ (¬ (σ.1 4 6) ≤ x5 → gM l v lyC 42 me_R_end n [.ref (v.2.2 4), .int ((x1 * (σ.1 4 6)) + x5)] σ (qI v lyC 42 (fun r1 σ1 => vp_in ((x1 * (σ.1 4 6)) + x5) 256 ∧ gM l v lyC 42 me_R_behind n [.ref (v.2.2 4), .int x4, .int (σ1.1 5 (((x1 * (σ.1 4 6)) + x5).toNatClampNeg))] σ1 (qL v lyC 42 (fun r3 σ3 => ((((jU r3 r1) &&& 1) = 0 → vp_in r1 64 ∧ vp_in r1 64 ∧ G_P_meetsBehind_32 l v n post (gs_pL σ3 15 r1.toNatClampNeg ((σ3.2.1 15 r1.toNatClampNeg) ||| r3)) x1 x2 x4 (x5 + 1)) ∧ (¬ ((jU r3 r1) &&& 1) = 0 → post 1 σ3))))))))) : G_P_meetsBehind_32 l v n post σ x1 x2 x4 x5 := by
  refine g_iload d_P_meetsBehind_32 4 rfl ?_
  refine g_aload_n d_P_meetsBehind_34 0 rfl rfl ?_
  refine g_getV (x := .ref (v.2.2 4)) d_P_meetsBehind_35 fl_P_31 (by decide) rfl rfl rfl ?_
  refine g_getV (x := .int (σ.1 4 6)) d_P_meetsBehind_38 fl_P_67 (by decide) rfl rfl rfl ?_
  refine g_icmp_ge (tgt := 122) d_P_meetsBehind_41 rfl (fun hc => ?_) (fun hc => ?_)
  · have h := h.1 hc
    exact g_sub [0, 1, 2, 3] rfl h
  · have h := h.2 hc
    refine g_iload_n d_P_meetsBehind_44 1 rfl rfl ?_
    refine g_aload_n d_P_meetsBehind_45 0 rfl rfl ?_
    refine g_getV (x := .ref (v.2.2 4)) d_P_meetsBehind_46 fl_P_31 (by decide) rfl rfl rfl ?_
    refine g_getV (x := .int (σ.1 4 6)) d_P_meetsBehind_49 fl_P_67 (by decide) rfl rfl rfl ?_
    refine g_imul d_P_meetsBehind_52 ?_
    refine g_iload d_P_meetsBehind_53 4 rfl ?_
    refine g_iadd d_P_meetsBehind_55 ?_
    refine g_istore (L' := [(6, .int ((x1 * (σ.1 4 6)) + x5)), (0, .ref (v.2.2 14)), (1, .int x1), (2, .long x2), (4, .int x4), (5, .int x5)]) d_P_meetsBehind_56 (by decide) rfl ?_
    refine g_aload_n d_P_meetsBehind_58 1 rfl rfl ?_
    refine g_getV (x := .ref (v.2.2 4)) d_P_meetsBehind_59 fl_P_31 (by decide) rfl rfl rfl ?_
    refine g_iload d_P_meetsBehind_62 0 rfl ?_
    refine g_callVi (av := [.int ((x1 * (σ.1 4 6)) + x5)]) (rest := []) d_P_meetsBehind_64 Y_R_end lk_P_74 (by decide) rfl rfl I_R_end rfl (Nat.le_of_ble_eq_true rfl) rfl h (fun r1 σ1 h => ?_)
    refine g_istore (L' := [(7, .int r1), (6, .int ((x1 * (σ.1 4 6)) + x5)), (0, .ref (v.2.2 14)), (1, .int x1), (2, .long x2), (4, .int x4), (5, .int x5)]) d_P_meetsBehind_67 (by decide) rfl ?_
    refine g_aload_n d_P_meetsBehind_69 2 rfl rfl ?_
    refine g_getV (x := .ref (v.2.2 4)) d_P_meetsBehind_70 fl_P_31 (by decide) rfl rfl rfl ?_
    refine g_iload d_P_meetsBehind_73 5 rfl ?_
    refine g_aload_n d_P_meetsBehind_75 2 rfl rfl ?_
    refine g_getV (x := .ref (v.2.2 4)) d_P_meetsBehind_76 fl_P_31 (by decide) rfl rfl rfl ?_
    refine g_getV (x := .ref (v.2.2 5)) d_P_meetsBehind_79 fl_P_70 (by decide) rfl rfl rfl ?_
    refine g_iload d_P_meetsBehind_82 1 rfl ?_
    have hi2 := h.1
    have h := h.2
    refine g_iald (x := σ1.1 5 (((x1 * (σ.1 4 6)) + x5).toNatClampNeg)) d_P_meetsBehind_84 (by decide) rfl hi2 rfl ?_
    refine g_callVl (av := [.int x4, .int (σ1.1 5 (((x1 * (σ.1 4 6)) + x5).toNatClampNeg))]) (rest := []) d_P_meetsBehind_85 Y_R_behind lk_P_78 (by decide) rfl rfl I_R_behind rfl (Nat.le_of_ble_eq_true rfl) rfl h (fun r3 σ3 h => ?_)
    refine g_lstore (L' := [(8, .long r3), (7, .int r1), (6, .int ((x1 * (σ.1 4 6)) + x5)), (0, .ref (v.2.2 14)), (1, .int x1), (2, .long x2), (4, .int x4), (5, .int x5)]) d_P_meetsBehind_88 (by decide) rfl ?_
    refine g_lload d_P_meetsBehind_90 0 rfl ?_
    refine g_iload d_P_meetsBehind_92 1 rfl ?_
    refine g_lushr d_P_meetsBehind_94 ?_
    refine g_lconst d_P_meetsBehind_95 (x := 1) (by decide) ?_
    refine g_land d_P_meetsBehind_96 ?_
    refine g_lconst d_P_meetsBehind_97 (x := 0) (by decide) ?_
    refine g_lcmp_eq (tgt := 104) d_P_meetsBehind_98 d_P_meetsBehind_99 rfl (fun hc => ?_) (fun hc => ?_)
    · have h := h.1 hc
      refine g_aload_n d_P_meetsBehind_104 3 rfl rfl ?_
      refine g_getV (x := .ref (v.2.2 15)) d_P_meetsBehind_105 fl_P_9 (by decide) rfl rfl rfl ?_
      refine g_iload d_P_meetsBehind_108 1 rfl ?_
      refine g_dup2_11 d_P_meetsBehind_110 rfl rfl ?_
      have hi4 := h.1
      have h := h.2
      refine g_lald (x := σ3.2.1 15 r1.toNatClampNeg) d_P_meetsBehind_111 (by decide) rfl hi4 rfl ?_
      refine g_lload d_P_meetsBehind_112 0 rfl ?_
      refine g_lor d_P_meetsBehind_114 ?_
      have hi5 := h.1
      have h := h.2
      refine g_last d_P_meetsBehind_115 (by decide) rfl hi5 ?_
      refine g_iinc (L' := [(5, .int (x5 + 1)), (8, .long r3), (7, .int r1), (6, .int ((x1 * (σ.1 4 6)) + x5)), (0, .ref (v.2.2 14)), (1, .int x1), (2, .long x2), (4, .int x4)]) d_P_meetsBehind_116 7 rfl (by rfl) (by decide) rfl ?_
      refine g_goto (tgt := 32) d_P_meetsBehind_119 rfl ?_
      exact g_sub [4, 5, 6, 7, 0] rfl h
    · have h := h.2 hc
      refine g_iconst d_P_meetsBehind_102 (x := 1) (by decide) ?_
      exact g_zret d_P_meetsBehind_103 rfl rfl h
set_option maxRecDepth 20000 in
set_option maxHeartbeats 1000000 in
theorem T_P_meetsBehind_122 {l : Launch} {v : gs_V} {n : Nat} {post : Int32 → gs_S → Prop} {σ : gs_S} {x1 : Int32} {x2 : Int64} {x4 : Int32} (h : G_P_meetsBehind_3 l v n post σ x1 x2 (x4 + 1)) : G_P_meetsBehind_122 l v n post σ x1 x2 x4 := by
  refine g_iinc (L' := [(4, .int (x4 + 1)), (0, .ref (v.2.2 14)), (1, .int x1), (2, .long x2)]) d_P_meetsBehind_122 3 rfl (by rfl) (by decide) rfl ?_
  refine g_goto (tgt := 3) d_P_meetsBehind_125 rfl ?_
  exact g_sub [1, 2, 3, 0] rfl h
theorem E_P_meetsBehind {l : Launch} {v : gs_V} {n : Nat} {post : Int32 → gs_S → Prop} {σ : gs_S} {x1 : Int32} {x2 : Int64} (h : G_P_meetsBehind_0 l v n post σ x1 x2) : gM l v lyC 42 me_P_meetsBehind (n + 1) [.ref (v.2.2 14), .int x1, .long x2] σ (qI v lyC 42 post) := gM_of (by decide +kernel) (Nat.le_of_ble_eq_true rfl) h
/-! LineRules$Pairs.missesNothing -/
theorem d_P_missesNothing_0 : decode me_P_missesNothing.2.1 0 = .ok (.aload_n 0, 1) := by decide +kernel
theorem d_P_missesNothing_1 : decode me_P_missesNothing.2.1 1 = .ok (.getfield 18, 3) := by decide +kernel
theorem d_P_missesNothing_4 : decode me_P_missesNothing.2.1 4 = .ok (.ifCond .ne 24, 3) := by decide +kernel
theorem d_P_missesNothing_7 : decode me_P_missesNothing.2.1 7 = .ok (.aload_n 0, 1) := by decide +kernel
theorem d_P_missesNothing_8 : decode me_P_missesNothing.2.1 8 = .ok (.iconst 1, 1) := by decide +kernel
theorem d_P_missesNothing_9 : decode me_P_missesNothing.2.1 9 = .ok (.putfield 18, 3) := by decide +kernel
theorem d_P_missesNothing_12 : decode me_P_missesNothing.2.1 12 = .ok (.aload_n 0, 1) := by decide +kernel
theorem d_P_missesNothing_13 : decode me_P_missesNothing.2.1 13 = .ok (.aload_n 0, 1) := by decide +kernel
theorem d_P_missesNothing_14 : decode me_P_missesNothing.2.1 14 = .ok (.invokevirtual 35, 3) := by decide +kernel
theorem d_P_missesNothing_17 : decode me_P_missesNothing.2.1 17 = .ok (.ifCond .ne 7, 3) := by decide +kernel
theorem d_P_missesNothing_20 : decode me_P_missesNothing.2.1 20 = .ok (.iconst 1, 1) := by decide +kernel
theorem d_P_missesNothing_21 : decode me_P_missesNothing.2.1 21 = .ok (.goto 4, 3) := by decide +kernel
theorem d_P_missesNothing_24 : decode me_P_missesNothing.2.1 24 = .ok (.iconst 0, 1) := by decide +kernel
theorem d_P_missesNothing_25 : decode me_P_missesNothing.2.1 25 = .ok (.putfield 22, 3) := by decide +kernel
theorem d_P_missesNothing_28 : decode me_P_missesNothing.2.1 28 = .ok (.aload_n 0, 1) := by decide +kernel
theorem d_P_missesNothing_29 : decode me_P_missesNothing.2.1 29 = .ok (.getfield 22, 3) := by decide +kernel
theorem d_P_missesNothing_32 : decode me_P_missesNothing.2.1 32 = .ok (.ireturn, 1) := by decide +kernel
abbrev G_P_missesNothing_0 (l : Launch) (v : gs_V) (n : Nat) (post : Int32 → gs_S → Prop) (σ : gs_S) : Prop := gG l v lyC 42 me_P_missesNothing n (qI v lyC 42 post) 0 [(0, .ref (v.2.2 14))] [] σ
abbrev G_P_missesNothing_25 (l : Launch) (v : gs_V) (n : Nat) (post : Int32 → gs_S → Prop) (σ : gs_S) (s0 : Int32) : Prop := gG l v lyC 42 me_P_missesNothing n (qI v lyC 42 post) 25 [(0, .ref (v.2.2 14))] [.int s0, .ref (v.2.2 14)] σ
abbrev G_P_missesNothing_28 (l : Launch) (v : gs_V) (n : Nat) (post : Int32 → gs_S → Prop) (σ : gs_S) : Prop := gG l v lyC 42 me_P_missesNothing n (qI v lyC 42 post) 28 [(0, .ref (v.2.2 14))] [] σ
set_option maxRecDepth 20000 in
set_option maxHeartbeats 1000000 in
theorem T_P_missesNothing_0 {l : Launch} {v : gs_V} {n : Nat} {post : Int32 → gs_S → Prop} {σ : gs_S} (h : ((¬ (σ.1 14 3) = 0 → G_P_missesNothing_28 l v n post σ) ∧ ((σ.1 14 3) = 0 → gM l v lyC 42 me_P_partAndMeet n [.ref (v.2.2 14)] (gs_pI σ 14 3 1) (qI v lyC 42 (fun r1 σ1 => ((¬ r1 = 0 → G_P_missesNothing_25 l v n post σ1 0) ∧ (r1 = 0 → G_P_missesNothing_25 l v n post σ1 1))))))) : G_P_missesNothing_0 l v n post σ := by
  refine g_aload_n d_P_missesNothing_0 0 rfl rfl ?_
  refine g_getV (x := .int (σ.1 14 3)) d_P_missesNothing_1 fl_P_18 (by decide) rfl rfl rfl ?_
  refine g_if_ne (tgt := 28) d_P_missesNothing_4 rfl (fun hc => ?_) (fun hc => ?_)
  · have h := h.1 hc
    exact h
  · have h := h.2 hc
    refine g_aload_n d_P_missesNothing_7 0 rfl rfl ?_
    refine g_iconst d_P_missesNothing_8 (x := 1) (by decide) ?_
    refine g_putI d_P_missesNothing_9 fp_P_18 (by decide) rfl rfl ⟨rfl, rfl⟩ ?_
    refine g_aload_n d_P_missesNothing_12 0 rfl rfl ?_
    refine g_aload_n d_P_missesNothing_13 0 rfl rfl ?_
    refine g_callVi (av := []) (rest := [.ref (v.2.2 14)]) d_P_missesNothing_14 Y_P_partAndMeet lk_P_35 (by decide) rfl rfl I_P_partAndMeet rfl (Nat.le_of_ble_eq_true rfl) rfl h (fun r1 σ1 h => ?_)
    refine g_if_ne (tgt := 24) d_P_missesNothing_17 rfl (fun hc => ?_) (fun hc => ?_)
    · have h := h.1 hc
      refine g_iconst d_P_missesNothing_24 (x := 0) (by decide) ?_
      exact h
    · have h := h.2 hc
      refine g_iconst d_P_missesNothing_20 (x := 1) (by decide) ?_
      refine g_goto (tgt := 25) d_P_missesNothing_21 rfl ?_
      exact h
set_option maxRecDepth 20000 in
set_option maxHeartbeats 1000000 in
theorem T_P_missesNothing_25 {l : Launch} {v : gs_V} {n : Nat} {post : Int32 → gs_S → Prop} {σ : gs_S} {s0 : Int32} (h : (narrow .boolean (.int s0) = .int s0 ∧ fits .boolean (.int s0) = true) ∧ G_P_missesNothing_28 l v n post (gs_pI σ 14 4 s0)) : G_P_missesNothing_25 l v n post σ s0 := by
  have hnf := h.1
  have h := h.2
  refine g_putI d_P_missesNothing_25 fp_P_22 (by decide) rfl rfl hnf ?_
  exact h
set_option maxRecDepth 20000 in
set_option maxHeartbeats 1000000 in
theorem T_P_missesNothing_28 {l : Launch} {v : gs_V} {n : Nat} {post : Int32 → gs_S → Prop} {σ : gs_S} (h : narrow .boolean (.int (σ.1 14 4)) = .int (σ.1 14 4) ∧ post (σ.1 14 4) σ) : G_P_missesNothing_28 l v n post σ := by
  refine g_aload_n d_P_missesNothing_28 0 rfl rfl ?_
  refine g_getV (x := .int (σ.1 14 4)) d_P_missesNothing_29 fl_P_22 (by decide) rfl rfl rfl ?_
  exact g_zret d_P_missesNothing_32 rfl h.1 h.2
theorem E_P_missesNothing {l : Launch} {v : gs_V} {n : Nat} {post : Int32 → gs_S → Prop} {σ : gs_S} (h : G_P_missesNothing_0 l v n post σ) : gM l v lyC 42 me_P_missesNothing (n + 1) [.ref (v.2.2 14)] σ (qI v lyC 42 post) := gM_of (by decide +kernel) (Nat.le_of_ble_eq_true rfl) h
/-! LineRules$Pairs.partAndMeet -/
theorem d_P_partAndMeet_0 : decode me_P_partAndMeet.2.1 0 = .ok (.aload_n 0, 1) := by decide +kernel
theorem d_P_partAndMeet_1 : decode me_P_partAndMeet.2.1 1 = .ok (.getfield 9, 3) := by decide +kernel
theorem d_P_partAndMeet_4 : decode me_P_partAndMeet.2.1 4 = .ok (.lconst 0, 1) := by decide +kernel
theorem d_P_partAndMeet_5 : decode me_P_partAndMeet.2.1 5 = .ok (.invokestatic 45, 3) := by decide +kernel
theorem d_P_partAndMeet_8 : decode me_P_partAndMeet.2.1 8 = .ok (.aload_n 0, 1) := by decide +kernel
theorem d_P_partAndMeet_9 : decode me_P_partAndMeet.2.1 9 = .ok (.getfield 15, 3) := by decide +kernel
theorem d_P_partAndMeet_12 : decode me_P_partAndMeet.2.1 12 = .ok (.lconst 0, 1) := by decide +kernel
theorem d_P_partAndMeet_13 : decode me_P_partAndMeet.2.1 13 = .ok (.invokestatic 45, 3) := by decide +kernel
theorem d_P_partAndMeet_16 : decode me_P_partAndMeet.2.1 16 = .ok (.iconst 0, 1) := by decide +kernel
theorem d_P_partAndMeet_17 : decode me_P_partAndMeet.2.1 17 = .ok (.istore_n 1, 1) := by decide +kernel
theorem d_P_partAndMeet_18 : decode me_P_partAndMeet.2.1 18 = .ok (.iload_n 1, 1) := by decide +kernel
theorem d_P_partAndMeet_19 : decode me_P_partAndMeet.2.1 19 = .ok (.aload_n 0, 1) := by decide +kernel
theorem d_P_partAndMeet_20 : decode me_P_partAndMeet.2.1 20 = .ok (.getfield 31, 3) := by decide +kernel
theorem d_P_partAndMeet_23 : decode me_P_partAndMeet.2.1 23 = .ok (.getfield 51, 3) := by decide +kernel
theorem d_P_partAndMeet_26 : decode me_P_partAndMeet.2.1 26 = .ok (.if_icmp .ge 14, 3) := by decide +kernel
theorem d_P_partAndMeet_29 : decode me_P_partAndMeet.2.1 29 = .ok (.aload_n 0, 1) := by decide +kernel
theorem d_P_partAndMeet_30 : decode me_P_partAndMeet.2.1 30 = .ok (.iload_n 1, 1) := by decide +kernel
theorem d_P_partAndMeet_31 : decode me_P_partAndMeet.2.1 31 = .ok (.invokevirtual 57, 3) := by decide +kernel
theorem d_P_partAndMeet_34 : decode me_P_partAndMeet.2.1 34 = .ok (.iinc 1 1, 3) := by decide +kernel
theorem d_P_partAndMeet_37 : decode me_P_partAndMeet.2.1 37 = .ok (.goto (-19), 3) := by decide +kernel
theorem d_P_partAndMeet_40 : decode me_P_partAndMeet.2.1 40 = .ok (.iconst 1, 1) := by decide +kernel
theorem d_P_partAndMeet_41 : decode me_P_partAndMeet.2.1 41 = .ok (.istore_n 1, 1) := by decide +kernel
theorem d_P_partAndMeet_42 : decode me_P_partAndMeet.2.1 42 = .ok (.iconst 0, 1) := by decide +kernel
theorem d_P_partAndMeet_43 : decode me_P_partAndMeet.2.1 43 = .ok (.istore_n 2, 1) := by decide +kernel
theorem d_P_partAndMeet_44 : decode me_P_partAndMeet.2.1 44 = .ok (.iload_n 2, 1) := by decide +kernel
theorem d_P_partAndMeet_45 : decode me_P_partAndMeet.2.1 45 = .ok (.sipush 4096, 3) := by decide +kernel
theorem d_P_partAndMeet_48 : decode me_P_partAndMeet.2.1 48 = .ok (.if_icmp .gt 85, 3) := by decide +kernel
theorem d_P_partAndMeet_51 : decode me_P_partAndMeet.2.1 51 = .ok (.iload_n 1, 1) := by decide +kernel
theorem d_P_partAndMeet_52 : decode me_P_partAndMeet.2.1 52 = .ok (.ifCond .eq 81, 3) := by decide +kernel
theorem d_P_partAndMeet_55 : decode me_P_partAndMeet.2.1 55 = .ok (.iconst 0, 1) := by decide +kernel
theorem d_P_partAndMeet_56 : decode me_P_partAndMeet.2.1 56 = .ok (.istore_n 1, 1) := by decide +kernel
theorem d_P_partAndMeet_57 : decode me_P_partAndMeet.2.1 57 = .ok (.iconst 0, 1) := by decide +kernel
theorem d_P_partAndMeet_58 : decode me_P_partAndMeet.2.1 58 = .ok (.istore_n 3, 1) := by decide +kernel
theorem d_P_partAndMeet_59 : decode me_P_partAndMeet.2.1 59 = .ok (.iload_n 3, 1) := by decide +kernel
theorem d_P_partAndMeet_60 : decode me_P_partAndMeet.2.1 60 = .ok (.aload_n 0, 1) := by decide +kernel
theorem d_P_partAndMeet_61 : decode me_P_partAndMeet.2.1 61 = .ok (.getfield 31, 3) := by decide +kernel
theorem d_P_partAndMeet_64 : decode me_P_partAndMeet.2.1 64 = .ok (.getfield 51, 3) := by decide +kernel
theorem d_P_partAndMeet_67 : decode me_P_partAndMeet.2.1 67 = .ok (.if_icmp .ge 60, 3) := by decide +kernel
theorem d_P_partAndMeet_70 : decode me_P_partAndMeet.2.1 70 = .ok (.aload_n 0, 1) := by decide +kernel
theorem d_P_partAndMeet_71 : decode me_P_partAndMeet.2.1 71 = .ok (.getfield 9, 3) := by decide +kernel
theorem d_P_partAndMeet_74 : decode me_P_partAndMeet.2.1 74 = .ok (.iload_n 3, 1) := by decide +kernel
theorem d_P_partAndMeet_75 : decode me_P_partAndMeet.2.1 75 = .ok (.laload, 1) := by decide +kernel
theorem d_P_partAndMeet_76 : decode me_P_partAndMeet.2.1 76 = .ok (.aload_n 0, 1) := by decide +kernel
theorem d_P_partAndMeet_77 : decode me_P_partAndMeet.2.1 77 = .ok (.getfield 15, 3) := by decide +kernel
theorem d_P_partAndMeet_80 : decode me_P_partAndMeet.2.1 80 = .ok (.iload_n 3, 1) := by decide +kernel
theorem d_P_partAndMeet_81 : decode me_P_partAndMeet.2.1 81 = .ok (.laload, 1) := by decide +kernel
theorem d_P_partAndMeet_82 : decode me_P_partAndMeet.2.1 82 = .ok (.ldc2_w 61, 3) := by decide +kernel
theorem d_P_partAndMeet_85 : decode me_P_partAndMeet.2.1 85 = .ok (.lxor, 1) := by decide +kernel
theorem d_P_partAndMeet_86 : decode me_P_partAndMeet.2.1 86 = .ok (.land, 1) := by decide +kernel
theorem d_P_partAndMeet_87 : decode me_P_partAndMeet.2.1 87 = .ok (.lstore 4, 2) := by decide +kernel
theorem d_P_partAndMeet_89 : decode me_P_partAndMeet.2.1 89 = .ok (.lload 4, 2) := by decide +kernel
theorem d_P_partAndMeet_91 : decode me_P_partAndMeet.2.1 91 = .ok (.lconst 0, 1) := by decide +kernel
theorem d_P_partAndMeet_92 : decode me_P_partAndMeet.2.1 92 = .ok (.lcmp, 1) := by decide +kernel
theorem d_P_partAndMeet_93 : decode me_P_partAndMeet.2.1 93 = .ok (.ifCond .eq 28, 3) := by decide +kernel
theorem d_P_partAndMeet_96 : decode me_P_partAndMeet.2.1 96 = .ok (.iconst 1, 1) := by decide +kernel
theorem d_P_partAndMeet_97 : decode me_P_partAndMeet.2.1 97 = .ok (.istore_n 1, 1) := by decide +kernel
theorem d_P_partAndMeet_98 : decode me_P_partAndMeet.2.1 98 = .ok (.aload_n 0, 1) := by decide +kernel
theorem d_P_partAndMeet_99 : decode me_P_partAndMeet.2.1 99 = .ok (.getfield 15, 3) := by decide +kernel
theorem d_P_partAndMeet_102 : decode me_P_partAndMeet.2.1 102 = .ok (.iload_n 3, 1) := by decide +kernel
theorem d_P_partAndMeet_103 : decode me_P_partAndMeet.2.1 103 = .ok (.dup2, 1) := by decide +kernel
theorem d_P_partAndMeet_104 : decode me_P_partAndMeet.2.1 104 = .ok (.laload, 1) := by decide +kernel
theorem d_P_partAndMeet_105 : decode me_P_partAndMeet.2.1 105 = .ok (.lload 4, 2) := by decide +kernel
theorem d_P_partAndMeet_107 : decode me_P_partAndMeet.2.1 107 = .ok (.lor, 1) := by decide +kernel
theorem d_P_partAndMeet_108 : decode me_P_partAndMeet.2.1 108 = .ok (.lastore, 1) := by decide +kernel
theorem d_P_partAndMeet_109 : decode me_P_partAndMeet.2.1 109 = .ok (.aload_n 0, 1) := by decide +kernel
theorem d_P_partAndMeet_110 : decode me_P_partAndMeet.2.1 110 = .ok (.iload_n 3, 1) := by decide +kernel
theorem d_P_partAndMeet_111 : decode me_P_partAndMeet.2.1 111 = .ok (.lload 4, 2) := by decide +kernel
theorem d_P_partAndMeet_113 : decode me_P_partAndMeet.2.1 113 = .ok (.invokevirtual 63, 3) := by decide +kernel
theorem d_P_partAndMeet_116 : decode me_P_partAndMeet.2.1 116 = .ok (.ifCond .eq 5, 3) := by decide +kernel
theorem d_P_partAndMeet_119 : decode me_P_partAndMeet.2.1 119 = .ok (.iconst 1, 1) := by decide +kernel
theorem d_P_partAndMeet_120 : decode me_P_partAndMeet.2.1 120 = .ok (.ireturn, 1) := by decide +kernel
theorem d_P_partAndMeet_121 : decode me_P_partAndMeet.2.1 121 = .ok (.iinc 3 1, 3) := by decide +kernel
theorem d_P_partAndMeet_124 : decode me_P_partAndMeet.2.1 124 = .ok (.goto (-65), 3) := by decide +kernel
theorem d_P_partAndMeet_127 : decode me_P_partAndMeet.2.1 127 = .ok (.iinc 2 1, 3) := by decide +kernel
theorem d_P_partAndMeet_130 : decode me_P_partAndMeet.2.1 130 = .ok (.goto (-86), 3) := by decide +kernel
theorem d_P_partAndMeet_133 : decode me_P_partAndMeet.2.1 133 = .ok (.iconst 0, 1) := by decide +kernel
theorem d_P_partAndMeet_134 : decode me_P_partAndMeet.2.1 134 = .ok (.ireturn, 1) := by decide +kernel
abbrev G_P_partAndMeet_0 (l : Launch) (v : gs_V) (n : Nat) (post : Int32 → gs_S → Prop) (σ : gs_S) : Prop := gG l v lyC 42 me_P_partAndMeet n (qI v lyC 42 post) 0 [(0, .ref (v.2.2 14))] [] σ
abbrev G_P_partAndMeet_18 (l : Launch) (v : gs_V) (n : Nat) (post : Int32 → gs_S → Prop) (σ : gs_S) (x1 : Int32) : Prop := gG l v lyC 42 me_P_partAndMeet n (qI v lyC 42 post) 18 [(0, .ref (v.2.2 14)), (1, .int x1)] [] σ
abbrev G_P_partAndMeet_44 (l : Launch) (v : gs_V) (n : Nat) (post : Int32 → gs_S → Prop) (σ : gs_S) (x1 : Int32) (x2 : Int32) : Prop := gG l v lyC 42 me_P_partAndMeet n (qI v lyC 42 post) 44 [(0, .ref (v.2.2 14)), (1, .int x1), (2, .int x2)] [] σ
abbrev G_P_partAndMeet_59 (l : Launch) (v : gs_V) (n : Nat) (post : Int32 → gs_S → Prop) (σ : gs_S) (x1 : Int32) (x2 : Int32) (x3 : Int32) : Prop := gG l v lyC 42 me_P_partAndMeet n (qI v lyC 42 post) 59 [(0, .ref (v.2.2 14)), (1, .int x1), (2, .int x2), (3, .int x3)] [] σ
abbrev G_P_partAndMeet_121 (l : Launch) (v : gs_V) (n : Nat) (post : Int32 → gs_S → Prop) (σ : gs_S) (x1 : Int32) (x2 : Int32) (x3 : Int32) : Prop := gG l v lyC 42 me_P_partAndMeet n (qI v lyC 42 post) 121 [(0, .ref (v.2.2 14)), (1, .int x1), (2, .int x2), (3, .int x3)] [] σ
abbrev G_P_partAndMeet_133 (l : Launch) (v : gs_V) (n : Nat) (post : Int32 → gs_S → Prop) (σ : gs_S) : Prop := gG l v lyC 42 me_P_partAndMeet n (qI v lyC 42 post) 133 [] [] σ
set_option maxRecDepth 20000 in
set_option maxHeartbeats 1000000 in
theorem T_P_partAndMeet_0 {l : Launch} {v : gs_V} {n : Nat} {post : Int32 → gs_S → Prop} {σ : gs_S} (h : gM l v lyC 42 me_Y_fillJ n [.ref (v.2.2 15), .long 0] σ (qV v lyC 42 (fun σ1 => gM l v lyC 42 me_Y_fillJ n [.ref (v.2.2 16), .long 0] σ1 (qV v lyC 42 (fun σ2 => G_P_partAndMeet_18 l v n post σ2 0))))) : G_P_partAndMeet_0 l v n post σ := by
  refine g_aload_n d_P_partAndMeet_0 0 rfl rfl ?_
  refine g_getV (x := .ref (v.2.2 15)) d_P_partAndMeet_1 fl_P_9 (by decide) rfl rfl rfl ?_
  refine g_lconst d_P_partAndMeet_4 (x := 0) (by decide) ?_
  refine g_callSv (av := [.ref (v.2.2 15), .long 0]) (rest := []) d_P_partAndMeet_5 Y_Y_fillJ lk_P_45 I_Y_fillJ rfl (Nat.le_of_ble_eq_true rfl) rfl h (fun σ1 h => ?_)
  refine g_aload_n d_P_partAndMeet_8 0 rfl rfl ?_
  refine g_getV (x := .ref (v.2.2 16)) d_P_partAndMeet_9 fl_P_15 (by decide) rfl rfl rfl ?_
  refine g_lconst d_P_partAndMeet_12 (x := 0) (by decide) ?_
  refine g_callSv (av := [.ref (v.2.2 16), .long 0]) (rest := []) d_P_partAndMeet_13 Y_Y_fillJ lk_P_45 I_Y_fillJ rfl (Nat.le_of_ble_eq_true rfl) rfl h (fun σ2 h => ?_)
  refine g_iconst d_P_partAndMeet_16 (x := 0) (by decide) ?_
  refine g_istore_n (L' := [(1, .int 0), (0, .ref (v.2.2 14))]) d_P_partAndMeet_17 rfl (by decide) rfl ?_
  exact g_sub [1, 0] rfl h
set_option maxRecDepth 20000 in
set_option maxHeartbeats 1000000 in
theorem T_P_partAndMeet_18 {l : Launch} {v : gs_V} {n : Nat} {post : Int32 → gs_S → Prop} {σ : gs_S} {x1 : Int32} (h : (((σ.1 4 9) ≤ x1 → G_P_partAndMeet_44 l v n post σ 1 0) ∧ (¬ (σ.1 4 9) ≤ x1 → gM l v lyC 42 me_P_partAt n [.ref (v.2.2 14), .int x1] σ (qV v lyC 42 (fun σ1 => G_P_partAndMeet_18 l v n post σ1 (x1 + 1)))))) : G_P_partAndMeet_18 l v n post σ x1 := by
  refine g_iload_n d_P_partAndMeet_18 1 rfl rfl ?_
  refine g_aload_n d_P_partAndMeet_19 0 rfl rfl ?_
  refine g_getV (x := .ref (v.2.2 4)) d_P_partAndMeet_20 fl_P_31 (by decide) rfl rfl rfl ?_
  refine g_getV (x := .int (σ.1 4 9)) d_P_partAndMeet_23 fl_P_51 (by decide) rfl rfl rfl ?_
  refine g_icmp_ge (tgt := 40) d_P_partAndMeet_26 rfl (fun hc => ?_) (fun hc => ?_)
  · have h := h.1 hc
    refine g_iconst d_P_partAndMeet_40 (x := 1) (by decide) ?_
    refine g_istore_n (L' := [(1, .int 1), (0, .ref (v.2.2 14))]) d_P_partAndMeet_41 rfl (by decide) rfl ?_
    refine g_iconst d_P_partAndMeet_42 (x := 0) (by decide) ?_
    refine g_istore_n (L' := [(2, .int 0), (1, .int 1), (0, .ref (v.2.2 14))]) d_P_partAndMeet_43 rfl (by decide) rfl ?_
    exact g_sub [2, 1, 0] rfl h
  · have h := h.2 hc
    refine g_aload_n d_P_partAndMeet_29 0 rfl rfl ?_
    refine g_iload_n d_P_partAndMeet_30 1 rfl rfl ?_
    refine g_callVv (av := [.int x1]) (rest := []) d_P_partAndMeet_31 Y_P_partAt lk_P_57 (by decide) rfl rfl I_P_partAt rfl (Nat.le_of_ble_eq_true rfl) rfl h (fun σ1 h => ?_)
    refine g_iinc (L' := [(1, .int (x1 + 1)), (0, .ref (v.2.2 14))]) d_P_partAndMeet_34 1 rfl (by rfl) (by decide) rfl ?_
    refine g_goto (tgt := 18) d_P_partAndMeet_37 rfl ?_
    exact g_sub [1, 0] rfl h
set_option maxRecDepth 20000 in
set_option maxHeartbeats 1000000 in
theorem T_P_partAndMeet_44 {l : Launch} {v : gs_V} {n : Nat} {post : Int32 → gs_S → Prop} {σ : gs_S} {x1 : Int32} {x2 : Int32} (h : ((4096 < x2 → G_P_partAndMeet_133 l v n post σ) ∧ (¬ 4096 < x2 → ((x1 = 0 → G_P_partAndMeet_133 l v n post σ) ∧ (¬ x1 = 0 → G_P_partAndMeet_59 l v n post σ 0 x2 0))))) : G_P_partAndMeet_44 l v n post σ x1 x2 := by
  refine g_iload_n d_P_partAndMeet_44 2 rfl rfl ?_
  refine g_sipush d_P_partAndMeet_45 (x := 4096) (by decide) ?_
  refine g_icmp_gt (tgt := 133) d_P_partAndMeet_48 rfl (fun hc => ?_) (fun hc => ?_)
  · have h := h.1 hc
    exact g_sub [] rfl h
  · have h := h.2 hc
    refine g_iload_n d_P_partAndMeet_51 1 rfl rfl ?_
    refine g_if_eq (tgt := 133) d_P_partAndMeet_52 rfl (fun hc => ?_) (fun hc => ?_)
    · have h := h.1 hc
      exact g_sub [] rfl h
    · have h := h.2 hc
      refine g_iconst d_P_partAndMeet_55 (x := 0) (by decide) ?_
      refine g_istore_n (L' := [(1, .int 0), (0, .ref (v.2.2 14)), (2, .int x2)]) d_P_partAndMeet_56 rfl (by decide) rfl ?_
      refine g_iconst d_P_partAndMeet_57 (x := 0) (by decide) ?_
      refine g_istore_n (L' := [(3, .int 0), (1, .int 0), (0, .ref (v.2.2 14)), (2, .int x2)]) d_P_partAndMeet_58 rfl (by decide) rfl ?_
      exact g_sub [2, 1, 3, 0] rfl h
set_option maxRecDepth 20000 in
set_option maxHeartbeats 1000000 in
theorem T_P_partAndMeet_59 {l : Launch} {v : gs_V} {n : Nat} {post : Int32 → gs_S → Prop} {σ : gs_S} {x1 : Int32} {x2 : Int32} {x3 : Int32} (h : (((σ.1 4 9) ≤ x3 → G_P_partAndMeet_44 l v n post σ x1 (x2 + 1)) ∧ (¬ (σ.1 4 9) ≤ x3 → vp_in x3 64 ∧ vp_in x3 64 ∧ ((((σ.2.1 15 x3.toNatClampNeg) &&& ((σ.2.1 16 x3.toNatClampNeg) ^^^ ((-1)))) = 0 → G_P_partAndMeet_121 l v n post σ x1 x2 x3) ∧ (¬ ((σ.2.1 15 x3.toNatClampNeg) &&& ((σ.2.1 16 x3.toNatClampNeg) ^^^ ((-1)))) = 0 → vp_in x3 64 ∧ vp_in x3 64 ∧ gM l v lyC 42 me_P_meetsBehind n [.ref (v.2.2 14), .int x3, .long ((σ.2.1 15 x3.toNatClampNeg) &&& ((σ.2.1 16 x3.toNatClampNeg) ^^^ ((-1))))] (gs_pL σ 16 x3.toNatClampNeg ((σ.2.1 16 x3.toNatClampNeg) ||| ((σ.2.1 15 x3.toNatClampNeg) &&& ((σ.2.1 16 x3.toNatClampNeg) ^^^ ((-1)))))) (qI v lyC 42 (fun r5 σ5 => ((r5 = 0 → G_P_partAndMeet_121 l v n post σ5 1 x2 x3) ∧ (¬ r5 = 0 → post 1 σ5))))))))) : G_P_partAndMeet_59 l v n post σ x1 x2 x3 := by
  refine g_iload_n d_P_partAndMeet_59 3 rfl rfl ?_
  refine g_aload_n d_P_partAndMeet_60 0 rfl rfl ?_
  refine g_getV (x := .ref (v.2.2 4)) d_P_partAndMeet_61 fl_P_31 (by decide) rfl rfl rfl ?_
  refine g_getV (x := .int (σ.1 4 9)) d_P_partAndMeet_64 fl_P_51 (by decide) rfl rfl rfl ?_
  refine g_icmp_ge (tgt := 127) d_P_partAndMeet_67 rfl (fun hc => ?_) (fun hc => ?_)
  · have h := h.1 hc
    refine g_iinc (L' := [(2, .int (x2 + 1)), (0, .ref (v.2.2 14)), (1, .int x1), (3, .int x3)]) d_P_partAndMeet_127 2 rfl (by rfl) (by decide) rfl ?_
    refine g_goto (tgt := 44) d_P_partAndMeet_130 rfl ?_
    exact g_sub [1, 2, 0] rfl h
  · have h := h.2 hc
    refine g_aload_n d_P_partAndMeet_70 0 rfl rfl ?_
    refine g_getV (x := .ref (v.2.2 15)) d_P_partAndMeet_71 fl_P_9 (by decide) rfl rfl rfl ?_
    refine g_iload_n d_P_partAndMeet_74 3 rfl rfl ?_
    have hi1 := h.1
    have h := h.2
    refine g_lald (x := σ.2.1 15 x3.toNatClampNeg) d_P_partAndMeet_75 (by decide) rfl hi1 rfl ?_
    refine g_aload_n d_P_partAndMeet_76 0 rfl rfl ?_
    refine g_getV (x := .ref (v.2.2 16)) d_P_partAndMeet_77 fl_P_15 (by decide) rfl rfl rfl ?_
    refine g_iload_n d_P_partAndMeet_80 3 rfl rfl ?_
    have hi2 := h.1
    have h := h.2
    refine g_lald (x := σ.2.1 16 x3.toNatClampNeg) d_P_partAndMeet_81 (by decide) rfl hi2 rfl ?_
    refine g_ldc2 d_P_partAndMeet_82 (x := (-1)) (gw_t3 (List.mem_of_getElem? (i := 64) rfl) rfl) ?_
    refine g_lxor d_P_partAndMeet_85 ?_
    refine g_land d_P_partAndMeet_86 ?_
    refine g_lstore (L' := [(4, .long ((σ.2.1 15 x3.toNatClampNeg) &&& ((σ.2.1 16 x3.toNatClampNeg) ^^^ ((-1))))), (0, .ref (v.2.2 14)), (1, .int x1), (2, .int x2), (3, .int x3)]) d_P_partAndMeet_87 (by decide) rfl ?_
    refine g_lload d_P_partAndMeet_89 0 rfl ?_
    refine g_lconst d_P_partAndMeet_91 (x := 0) (by decide) ?_
    refine g_lcmp_eq (tgt := 121) d_P_partAndMeet_92 d_P_partAndMeet_93 rfl (fun hc => ?_) (fun hc => ?_)
    · have h := h.1 hc
      exact g_sub [1, 2, 3, 4] rfl h
    · have h := h.2 hc
      refine g_iconst d_P_partAndMeet_96 (x := 1) (by decide) ?_
      refine g_istore_n (L' := [(1, .int 1), (4, .long ((σ.2.1 15 x3.toNatClampNeg) &&& ((σ.2.1 16 x3.toNatClampNeg) ^^^ ((-1))))), (0, .ref (v.2.2 14)), (2, .int x2), (3, .int x3)]) d_P_partAndMeet_97 rfl (by decide) rfl ?_
      refine g_aload_n d_P_partAndMeet_98 2 rfl rfl ?_
      refine g_getV (x := .ref (v.2.2 16)) d_P_partAndMeet_99 fl_P_15 (by decide) rfl rfl rfl ?_
      refine g_iload_n d_P_partAndMeet_102 4 rfl rfl ?_
      refine g_dup2_11 d_P_partAndMeet_103 rfl rfl ?_
      have hi3 := h.1
      have h := h.2
      refine g_lald (x := σ.2.1 16 x3.toNatClampNeg) d_P_partAndMeet_104 (by decide) rfl hi3 rfl ?_
      refine g_lload d_P_partAndMeet_105 1 rfl ?_
      refine g_lor d_P_partAndMeet_107 ?_
      have hi4 := h.1
      have h := h.2
      refine g_last d_P_partAndMeet_108 (by decide) rfl hi4 ?_
      refine g_aload_n d_P_partAndMeet_109 2 rfl rfl ?_
      refine g_iload_n d_P_partAndMeet_110 4 rfl rfl ?_
      refine g_lload d_P_partAndMeet_111 1 rfl ?_
      refine g_callVi (av := [.int x3, .long ((σ.2.1 15 x3.toNatClampNeg) &&& ((σ.2.1 16 x3.toNatClampNeg) ^^^ ((-1))))]) (rest := []) d_P_partAndMeet_113 Y_P_meetsBehind lk_P_63 (by decide) rfl rfl I_P_meetsBehind rfl (Nat.le_of_ble_eq_true rfl) rfl h (fun r5 σ5 h => ?_)
      refine g_if_eq (tgt := 121) d_P_partAndMeet_116 rfl (fun hc => ?_) (fun hc => ?_)
      · have h := h.1 hc
        exact g_sub [2, 0, 3, 4] rfl h
      · have h := h.2 hc
        refine g_iconst d_P_partAndMeet_119 (x := 1) (by decide) ?_
        exact g_zret d_P_partAndMeet_120 rfl rfl h
set_option maxRecDepth 20000 in
set_option maxHeartbeats 1000000 in
theorem T_P_partAndMeet_121 {l : Launch} {v : gs_V} {n : Nat} {post : Int32 → gs_S → Prop} {σ : gs_S} {x1 : Int32} {x2 : Int32} {x3 : Int32} (h : G_P_partAndMeet_59 l v n post σ x1 x2 (x3 + 1)) : G_P_partAndMeet_121 l v n post σ x1 x2 x3 := by
  refine g_iinc (L' := [(3, .int (x3 + 1)), (0, .ref (v.2.2 14)), (1, .int x1), (2, .int x2)]) d_P_partAndMeet_121 3 rfl (by rfl) (by decide) rfl ?_
  refine g_goto (tgt := 59) d_P_partAndMeet_124 rfl ?_
  exact g_sub [1, 2, 3, 0] rfl h
set_option maxRecDepth 20000 in
set_option maxHeartbeats 1000000 in
theorem T_P_partAndMeet_133 {l : Launch} {v : gs_V} {n : Nat} {post : Int32 → gs_S → Prop} {σ : gs_S} (h : post 0 σ) : G_P_partAndMeet_133 l v n post σ := by
  refine g_iconst d_P_partAndMeet_133 (x := 0) (by decide) ?_
  exact g_zret d_P_partAndMeet_134 rfl rfl h
theorem E_P_partAndMeet {l : Launch} {v : gs_V} {n : Nat} {post : Int32 → gs_S → Prop} {σ : gs_S} (h : G_P_partAndMeet_0 l v n post σ) : gM l v lyC 42 me_P_partAndMeet (n + 1) [.ref (v.2.2 14)] σ (qI v lyC 42 post) := gM_of (by decide +kernel) (Nat.le_of_ble_eq_true rfl) h
/-! LineRules$Pairs.partAt -/
theorem d_P_partAt_0 : decode me_P_partAt.2.1 0 = .ok (.iload_n 1, 1) := by decide +kernel
theorem d_P_partAt_1 : decode me_P_partAt.2.1 1 = .ok (.aload_n 0, 1) := by decide +kernel
theorem d_P_partAt_2 : decode me_P_partAt.2.1 2 = .ok (.getfield 31, 3) := by decide +kernel
theorem d_P_partAt_5 : decode me_P_partAt.2.1 5 = .ok (.getfield 67, 3) := by decide +kernel
theorem d_P_partAt_8 : decode me_P_partAt.2.1 8 = .ok (.imul, 1) := by decide +kernel
theorem d_P_partAt_9 : decode me_P_partAt.2.1 9 = .ok (.istore_n 2, 1) := by decide +kernel
theorem d_P_partAt_10 : decode me_P_partAt.2.1 10 = .ok (.iload_n 2, 1) := by decide +kernel
theorem d_P_partAt_11 : decode me_P_partAt.2.1 11 = .ok (.istore_n 3, 1) := by decide +kernel
theorem d_P_partAt_12 : decode me_P_partAt.2.1 12 = .ok (.iload_n 3, 1) := by decide +kernel
theorem d_P_partAt_13 : decode me_P_partAt.2.1 13 = .ok (.iload_n 2, 1) := by decide +kernel
theorem d_P_partAt_14 : decode me_P_partAt.2.1 14 = .ok (.aload_n 0, 1) := by decide +kernel
theorem d_P_partAt_15 : decode me_P_partAt.2.1 15 = .ok (.getfield 31, 3) := by decide +kernel
theorem d_P_partAt_18 : decode me_P_partAt.2.1 18 = .ok (.getfield 67, 3) := by decide +kernel
theorem d_P_partAt_21 : decode me_P_partAt.2.1 21 = .ok (.iadd, 1) := by decide +kernel
theorem d_P_partAt_22 : decode me_P_partAt.2.1 22 = .ok (.if_icmp .ge 83, 3) := by decide +kernel
theorem d_P_partAt_25 : decode me_P_partAt.2.1 25 = .ok (.iload_n 3, 1) := by decide +kernel
theorem d_P_partAt_26 : decode me_P_partAt.2.1 26 = .ok (.iconst 1, 1) := by decide +kernel
theorem d_P_partAt_27 : decode me_P_partAt.2.1 27 = .ok (.iadd, 1) := by decide +kernel
theorem d_P_partAt_28 : decode me_P_partAt.2.1 28 = .ok (.istore 4, 2) := by decide +kernel
theorem d_P_partAt_30 : decode me_P_partAt.2.1 30 = .ok (.iload 4, 2) := by decide +kernel
theorem d_P_partAt_32 : decode me_P_partAt.2.1 32 = .ok (.iload_n 2, 1) := by decide +kernel
theorem d_P_partAt_33 : decode me_P_partAt.2.1 33 = .ok (.aload_n 0, 1) := by decide +kernel
theorem d_P_partAt_34 : decode me_P_partAt.2.1 34 = .ok (.getfield 31, 3) := by decide +kernel
theorem d_P_partAt_37 : decode me_P_partAt.2.1 37 = .ok (.getfield 67, 3) := by decide +kernel
theorem d_P_partAt_40 : decode me_P_partAt.2.1 40 = .ok (.iadd, 1) := by decide +kernel
theorem d_P_partAt_41 : decode me_P_partAt.2.1 41 = .ok (.if_icmp .ge 58, 3) := by decide +kernel
theorem d_P_partAt_44 : decode me_P_partAt.2.1 44 = .ok (.aload_n 0, 1) := by decide +kernel
theorem d_P_partAt_45 : decode me_P_partAt.2.1 45 = .ok (.getfield 31, 3) := by decide +kernel
theorem d_P_partAt_48 : decode me_P_partAt.2.1 48 = .ok (.getfield 70, 3) := by decide +kernel
theorem d_P_partAt_51 : decode me_P_partAt.2.1 51 = .ok (.iload_n 3, 1) := by decide +kernel
theorem d_P_partAt_52 : decode me_P_partAt.2.1 52 = .ok (.iaload, 1) := by decide +kernel
theorem d_P_partAt_53 : decode me_P_partAt.2.1 53 = .ok (.aload_n 0, 1) := by decide +kernel
theorem d_P_partAt_54 : decode me_P_partAt.2.1 54 = .ok (.getfield 31, 3) := by decide +kernel
theorem d_P_partAt_57 : decode me_P_partAt.2.1 57 = .ok (.getfield 70, 3) := by decide +kernel
theorem d_P_partAt_60 : decode me_P_partAt.2.1 60 = .ok (.iload 4, 2) := by decide +kernel
theorem d_P_partAt_62 : decode me_P_partAt.2.1 62 = .ok (.iaload, 1) := by decide +kernel
theorem d_P_partAt_63 : decode me_P_partAt.2.1 63 = .ok (.if_icmp .ne 30, 3) := by decide +kernel
theorem d_P_partAt_66 : decode me_P_partAt.2.1 66 = .ok (.aload_n 0, 1) := by decide +kernel
theorem d_P_partAt_67 : decode me_P_partAt.2.1 67 = .ok (.getfield 9, 3) := by decide +kernel
theorem d_P_partAt_70 : decode me_P_partAt.2.1 70 = .ok (.aload_n 0, 1) := by decide +kernel
theorem d_P_partAt_71 : decode me_P_partAt.2.1 71 = .ok (.getfield 31, 3) := by decide +kernel
theorem d_P_partAt_74 : decode me_P_partAt.2.1 74 = .ok (.iload_n 3, 1) := by decide +kernel
theorem d_P_partAt_75 : decode me_P_partAt.2.1 75 = .ok (.invokevirtual 74, 3) := by decide +kernel
theorem d_P_partAt_78 : decode me_P_partAt.2.1 78 = .ok (.dup2, 1) := by decide +kernel
theorem d_P_partAt_79 : decode me_P_partAt.2.1 79 = .ok (.laload, 1) := by decide +kernel
theorem d_P_partAt_80 : decode me_P_partAt.2.1 80 = .ok (.lconst 1, 1) := by decide +kernel
theorem d_P_partAt_81 : decode me_P_partAt.2.1 81 = .ok (.aload_n 0, 1) := by decide +kernel
theorem d_P_partAt_82 : decode me_P_partAt.2.1 82 = .ok (.getfield 31, 3) := by decide +kernel
theorem d_P_partAt_85 : decode me_P_partAt.2.1 85 = .ok (.iload 4, 2) := by decide +kernel
theorem d_P_partAt_87 : decode me_P_partAt.2.1 87 = .ok (.invokevirtual 74, 3) := by decide +kernel
theorem d_P_partAt_90 : decode me_P_partAt.2.1 90 = .ok (.lshl, 1) := by decide +kernel
theorem d_P_partAt_91 : decode me_P_partAt.2.1 91 = .ok (.lor, 1) := by decide +kernel
theorem d_P_partAt_92 : decode me_P_partAt.2.1 92 = .ok (.lastore, 1) := by decide +kernel
theorem d_P_partAt_93 : decode me_P_partAt.2.1 93 = .ok (.iinc 4 1, 3) := by decide +kernel
theorem d_P_partAt_96 : decode me_P_partAt.2.1 96 = .ok (.goto (-66), 3) := by decide +kernel
theorem d_P_partAt_99 : decode me_P_partAt.2.1 99 = .ok (.iinc 3 1, 3) := by decide +kernel
theorem d_P_partAt_102 : decode me_P_partAt.2.1 102 = .ok (.goto (-90), 3) := by decide +kernel
theorem d_P_partAt_105 : decode me_P_partAt.2.1 105 = .ok (.return_, 1) := by decide +kernel
abbrev G_P_partAt_0 (l : Launch) (v : gs_V) (n : Nat) (post : gs_S → Prop) (σ : gs_S) (x1 : Int32) : Prop := gG l v lyC 42 me_P_partAt n (qV v lyC 42 post) 0 [(0, .ref (v.2.2 14)), (1, .int x1)] [] σ
abbrev G_P_partAt_12 (l : Launch) (v : gs_V) (n : Nat) (post : gs_S → Prop) (σ : gs_S) (x2 : Int32) (x3 : Int32) : Prop := gG l v lyC 42 me_P_partAt n (qV v lyC 42 post) 12 [(0, .ref (v.2.2 14)), (2, .int x2), (3, .int x3)] [] σ
abbrev G_P_partAt_30 (l : Launch) (v : gs_V) (n : Nat) (post : gs_S → Prop) (σ : gs_S) (x2 : Int32) (x3 : Int32) (x4 : Int32) : Prop := gG l v lyC 42 me_P_partAt n (qV v lyC 42 post) 30 [(0, .ref (v.2.2 14)), (2, .int x2), (3, .int x3), (4, .int x4)] [] σ
abbrev G_P_partAt_93 (l : Launch) (v : gs_V) (n : Nat) (post : gs_S → Prop) (σ : gs_S) (x2 : Int32) (x3 : Int32) (x4 : Int32) : Prop := gG l v lyC 42 me_P_partAt n (qV v lyC 42 post) 93 [(0, .ref (v.2.2 14)), (2, .int x2), (3, .int x3), (4, .int x4)] [] σ
set_option maxRecDepth 20000 in
set_option maxHeartbeats 1000000 in
theorem T_P_partAt_0 {l : Launch} {v : gs_V} {n : Nat} {post : gs_S → Prop} {σ : gs_S} {x1 : Int32} (h : G_P_partAt_12 l v n post σ (x1 * (σ.1 4 6)) (x1 * (σ.1 4 6))) : G_P_partAt_0 l v n post σ x1 := by
  refine g_iload_n d_P_partAt_0 1 rfl rfl ?_
  refine g_aload_n d_P_partAt_1 0 rfl rfl ?_
  refine g_getV (x := .ref (v.2.2 4)) d_P_partAt_2 fl_P_31 (by decide) rfl rfl rfl ?_
  refine g_getV (x := .int (σ.1 4 6)) d_P_partAt_5 fl_P_67 (by decide) rfl rfl rfl ?_
  refine g_imul d_P_partAt_8 ?_
  refine g_istore_n (L' := [(2, .int (x1 * (σ.1 4 6))), (0, .ref (v.2.2 14)), (1, .int x1)]) d_P_partAt_9 rfl (by decide) rfl ?_
  refine g_iload_n d_P_partAt_10 0 rfl rfl ?_
  refine g_istore_n (L' := [(3, .int (x1 * (σ.1 4 6))), (2, .int (x1 * (σ.1 4 6))), (0, .ref (v.2.2 14)), (1, .int x1)]) d_P_partAt_11 rfl (by decide) rfl ?_
  exact g_sub [2, 1, 0] rfl h
set_option maxRecDepth 20000 in
set_option maxHeartbeats 1000000 in
theorem T_P_partAt_12 {l : Launch} {v : gs_V} {n : Nat} {post : gs_S → Prop} {σ : gs_S} {x2 : Int32} {x3 : Int32} (h : (((x2 + (σ.1 4 6)) ≤ x3 → post σ) ∧ (¬ (x2 + (σ.1 4 6)) ≤ x3 → G_P_partAt_30 l v n post σ x2 x3 (x3 + 1)))) : G_P_partAt_12 l v n post σ x2 x3 := by
  refine g_iload_n d_P_partAt_12 2 rfl rfl ?_
  refine g_iload_n d_P_partAt_13 1 rfl rfl ?_
  refine g_aload_n d_P_partAt_14 0 rfl rfl ?_
  refine g_getV (x := .ref (v.2.2 4)) d_P_partAt_15 fl_P_31 (by decide) rfl rfl rfl ?_
  refine g_getV (x := .int (σ.1 4 6)) d_P_partAt_18 fl_P_67 (by decide) rfl rfl rfl ?_
  refine g_iadd d_P_partAt_21 ?_
  refine g_icmp_ge (tgt := 105) d_P_partAt_22 rfl (fun hc => ?_) (fun hc => ?_)
  · have h := h.1 hc
    exact g_vret d_P_partAt_105 rfl h
  · have h := h.2 hc
    refine g_iload_n d_P_partAt_25 2 rfl rfl ?_
    refine g_iconst d_P_partAt_26 (x := 1) (by decide) ?_
    refine g_iadd d_P_partAt_27 ?_
    refine g_istore (L' := [(4, .int (x3 + 1)), (0, .ref (v.2.2 14)), (2, .int x2), (3, .int x3)]) d_P_partAt_28 (by decide) rfl ?_
    exact g_sub [1, 2, 3, 0] rfl h
set_option maxRecDepth 20000 in
set_option maxHeartbeats 1000000 in
theorem T_P_partAt_30 {l : Launch} {v : gs_V} {n : Nat} {post : gs_S → Prop} {σ : gs_S} {x2 : Int32} {x3 : Int32} {x4 : Int32} (h : (((x2 + (σ.1 4 6)) ≤ x4 → G_P_partAt_12 l v n post σ x2 (x3 + 1)) ∧ (¬ (x2 + (σ.1 4 6)) ≤ x4 → vp_in x3 256 ∧ vp_in x4 256 ∧ ((¬ (σ.1 5 x3.toNatClampNeg) = (σ.1 5 x4.toNatClampNeg) → G_P_partAt_93 l v n post σ x2 x3 x4) ∧ ((σ.1 5 x3.toNatClampNeg) = (σ.1 5 x4.toNatClampNeg) → gM l v lyC 42 me_R_end n [.ref (v.2.2 4), .int x3] σ (qI v lyC 42 (fun r3 σ3 => vp_in r3 64 ∧ gM l v lyC 42 me_R_end n [.ref (v.2.2 4), .int x4] σ3 (qI v lyC 42 (fun r5 σ5 => vp_in r3 64 ∧ G_P_partAt_93 l v n post (gs_pL σ5 15 r3.toNatClampNeg ((σ3.2.1 15 r3.toNatClampNeg) ||| (jS 1 r5))) x2 x3 x4))))))))) : G_P_partAt_30 l v n post σ x2 x3 x4 := by
  refine g_iload d_P_partAt_30 3 rfl ?_
  refine g_iload_n d_P_partAt_32 1 rfl rfl ?_
  refine g_aload_n d_P_partAt_33 0 rfl rfl ?_
  refine g_getV (x := .ref (v.2.2 4)) d_P_partAt_34 fl_P_31 (by decide) rfl rfl rfl ?_
  refine g_getV (x := .int (σ.1 4 6)) d_P_partAt_37 fl_P_67 (by decide) rfl rfl rfl ?_
  refine g_iadd d_P_partAt_40 ?_
  refine g_icmp_ge (tgt := 99) d_P_partAt_41 rfl (fun hc => ?_) (fun hc => ?_)
  · have h := h.1 hc
    refine g_iinc (L' := [(3, .int (x3 + 1)), (0, .ref (v.2.2 14)), (2, .int x2), (4, .int x4)]) d_P_partAt_99 2 rfl (by rfl) (by decide) rfl ?_
    refine g_goto (tgt := 12) d_P_partAt_102 rfl ?_
    exact g_sub [1, 2, 0] rfl h
  · have h := h.2 hc
    refine g_aload_n d_P_partAt_44 0 rfl rfl ?_
    refine g_getV (x := .ref (v.2.2 4)) d_P_partAt_45 fl_P_31 (by decide) rfl rfl rfl ?_
    refine g_getV (x := .ref (v.2.2 5)) d_P_partAt_48 fl_P_70 (by decide) rfl rfl rfl ?_
    refine g_iload_n d_P_partAt_51 2 rfl rfl ?_
    have hi1 := h.1
    have h := h.2
    refine g_iald (x := σ.1 5 x3.toNatClampNeg) d_P_partAt_52 (by decide) rfl hi1 rfl ?_
    refine g_aload_n d_P_partAt_53 0 rfl rfl ?_
    refine g_getV (x := .ref (v.2.2 4)) d_P_partAt_54 fl_P_31 (by decide) rfl rfl rfl ?_
    refine g_getV (x := .ref (v.2.2 5)) d_P_partAt_57 fl_P_70 (by decide) rfl rfl rfl ?_
    refine g_iload d_P_partAt_60 3 rfl ?_
    have hi2 := h.1
    have h := h.2
    refine g_iald (x := σ.1 5 x4.toNatClampNeg) d_P_partAt_62 (by decide) rfl hi2 rfl ?_
    refine g_icmp_ne (tgt := 93) d_P_partAt_63 rfl (fun hc => ?_) (fun hc => ?_)
    · have h := h.1 hc
      exact h
    · have h := h.2 hc
      refine g_aload_n d_P_partAt_66 0 rfl rfl ?_
      refine g_getV (x := .ref (v.2.2 15)) d_P_partAt_67 fl_P_9 (by decide) rfl rfl rfl ?_
      refine g_aload_n d_P_partAt_70 0 rfl rfl ?_
      refine g_getV (x := .ref (v.2.2 4)) d_P_partAt_71 fl_P_31 (by decide) rfl rfl rfl ?_
      refine g_iload_n d_P_partAt_74 2 rfl rfl ?_
      refine g_callVi (av := [.int x3]) (rest := [.ref (v.2.2 15)]) d_P_partAt_75 Y_R_end lk_P_74 (by decide) rfl rfl I_R_end rfl (Nat.le_of_ble_eq_true rfl) rfl h (fun r3 σ3 h => ?_)
      refine g_dup2_11 d_P_partAt_78 rfl rfl ?_
      have hi4 := h.1
      have h := h.2
      refine g_lald (x := σ3.2.1 15 r3.toNatClampNeg) d_P_partAt_79 (by decide) rfl hi4 rfl ?_
      refine g_lconst d_P_partAt_80 (x := 1) (by decide) ?_
      refine g_aload_n d_P_partAt_81 0 rfl rfl ?_
      refine g_getV (x := .ref (v.2.2 4)) d_P_partAt_82 fl_P_31 (by decide) rfl rfl rfl ?_
      refine g_iload d_P_partAt_85 3 rfl ?_
      refine g_callVi (av := [.int x4]) (rest := [.long 1, .long (σ3.2.1 15 r3.toNatClampNeg), .int r3, .ref (v.2.2 15)]) d_P_partAt_87 Y_R_end lk_P_74 (by decide) rfl rfl I_R_end rfl (Nat.le_of_ble_eq_true rfl) rfl h (fun r5 σ5 h => ?_)
      refine g_lshl d_P_partAt_90 ?_
      refine g_lor d_P_partAt_91 ?_
      have hi6 := h.1
      have h := h.2
      refine g_last d_P_partAt_92 (by decide) rfl hi6 ?_
      exact h
set_option maxRecDepth 20000 in
set_option maxHeartbeats 1000000 in
theorem T_P_partAt_93 {l : Launch} {v : gs_V} {n : Nat} {post : gs_S → Prop} {σ : gs_S} {x2 : Int32} {x3 : Int32} {x4 : Int32} (h : G_P_partAt_30 l v n post σ x2 x3 (x4 + 1)) : G_P_partAt_93 l v n post σ x2 x3 x4 := by
  refine g_iinc (L' := [(4, .int (x4 + 1)), (0, .ref (v.2.2 14)), (2, .int x2), (3, .int x3)]) d_P_partAt_93 3 rfl (by rfl) (by decide) rfl ?_
  refine g_goto (tgt := 30) d_P_partAt_96 rfl ?_
  exact g_sub [1, 2, 3, 0] rfl h
theorem E_P_partAt {l : Launch} {v : gs_V} {n : Nat} {post : gs_S → Prop} {σ : gs_S} {x1 : Int32} (h : G_P_partAt_0 l v n post σ x1) : gM l v lyC 42 me_P_partAt (n + 1) [.ref (v.2.2 14), .int x1] σ (qV v lyC 42 post) := gM_of (by decide +kernel) (Nat.le_of_ble_eq_true rfl) h
/-! LineRules$Pairs.stayApart -/
theorem d_P_stayApart_0 : decode me_P_stayApart.2.1 0 = .ok (.iconst 0, 1) := by decide +kernel
theorem d_P_stayApart_1 : decode me_P_stayApart.2.1 1 = .ok (.istore_n 1, 1) := by decide +kernel
theorem d_P_stayApart_2 : decode me_P_stayApart.2.1 2 = .ok (.iload_n 1, 1) := by decide +kernel
theorem d_P_stayApart_3 : decode me_P_stayApart.2.1 3 = .ok (.aload_n 0, 1) := by decide +kernel
theorem d_P_stayApart_4 : decode me_P_stayApart.2.1 4 = .ok (.getfield 31, 3) := by decide +kernel
theorem d_P_stayApart_7 : decode me_P_stayApart.2.1 7 = .ok (.getfield 51, 3) := by decide +kernel
theorem d_P_stayApart_10 : decode me_P_stayApart.2.1 10 = .ok (.if_icmp .ge 30, 3) := by decide +kernel
theorem d_P_stayApart_13 : decode me_P_stayApart.2.1 13 = .ok (.aload_n 0, 1) := by decide +kernel
theorem d_P_stayApart_14 : decode me_P_stayApart.2.1 14 = .ok (.getfield 9, 3) := by decide +kernel
theorem d_P_stayApart_17 : decode me_P_stayApart.2.1 17 = .ok (.iload_n 1, 1) := by decide +kernel
theorem d_P_stayApart_18 : decode me_P_stayApart.2.1 18 = .ok (.aload_n 0, 1) := by decide +kernel
theorem d_P_stayApart_19 : decode me_P_stayApart.2.1 19 = .ok (.getfield 31, 3) := by decide +kernel
theorem d_P_stayApart_22 : decode me_P_stayApart.2.1 22 = .ok (.invokevirtual 82, 3) := by decide +kernel
theorem d_P_stayApart_25 : decode me_P_stayApart.2.1 25 = .ok (.lconst 1, 1) := by decide +kernel
theorem d_P_stayApart_26 : decode me_P_stayApart.2.1 26 = .ok (.iload_n 1, 1) := by decide +kernel
theorem d_P_stayApart_27 : decode me_P_stayApart.2.1 27 = .ok (.lshl, 1) := by decide +kernel
theorem d_P_stayApart_28 : decode me_P_stayApart.2.1 28 = .ok (.ldc2_w 61, 3) := by decide +kernel
theorem d_P_stayApart_31 : decode me_P_stayApart.2.1 31 = .ok (.lxor, 1) := by decide +kernel
theorem d_P_stayApart_32 : decode me_P_stayApart.2.1 32 = .ok (.land, 1) := by decide +kernel
theorem d_P_stayApart_33 : decode me_P_stayApart.2.1 33 = .ok (.lastore, 1) := by decide +kernel
theorem d_P_stayApart_34 : decode me_P_stayApart.2.1 34 = .ok (.iinc 1 1, 3) := by decide +kernel
theorem d_P_stayApart_37 : decode me_P_stayApart.2.1 37 = .ok (.goto (-35), 3) := by decide +kernel
theorem d_P_stayApart_40 : decode me_P_stayApart.2.1 40 = .ok (.iconst 1, 1) := by decide +kernel
theorem d_P_stayApart_41 : decode me_P_stayApart.2.1 41 = .ok (.istore_n 1, 1) := by decide +kernel
theorem d_P_stayApart_42 : decode me_P_stayApart.2.1 42 = .ok (.iconst 0, 1) := by decide +kernel
theorem d_P_stayApart_43 : decode me_P_stayApart.2.1 43 = .ok (.istore_n 2, 1) := by decide +kernel
theorem d_P_stayApart_44 : decode me_P_stayApart.2.1 44 = .ok (.iload_n 2, 1) := by decide +kernel
theorem d_P_stayApart_45 : decode me_P_stayApart.2.1 45 = .ok (.sipush 4096, 3) := by decide +kernel
theorem d_P_stayApart_48 : decode me_P_stayApart.2.1 48 = .ok (.if_icmp .gt 69, 3) := by decide +kernel
theorem d_P_stayApart_51 : decode me_P_stayApart.2.1 51 = .ok (.iload_n 1, 1) := by decide +kernel
theorem d_P_stayApart_52 : decode me_P_stayApart.2.1 52 = .ok (.ifCond .eq 65, 3) := by decide +kernel
theorem d_P_stayApart_55 : decode me_P_stayApart.2.1 55 = .ok (.iconst 0, 1) := by decide +kernel
theorem d_P_stayApart_56 : decode me_P_stayApart.2.1 56 = .ok (.istore_n 1, 1) := by decide +kernel
theorem d_P_stayApart_57 : decode me_P_stayApart.2.1 57 = .ok (.iconst 0, 1) := by decide +kernel
theorem d_P_stayApart_58 : decode me_P_stayApart.2.1 58 = .ok (.istore_n 3, 1) := by decide +kernel
theorem d_P_stayApart_59 : decode me_P_stayApart.2.1 59 = .ok (.iload_n 3, 1) := by decide +kernel
theorem d_P_stayApart_60 : decode me_P_stayApart.2.1 60 = .ok (.aload_n 0, 1) := by decide +kernel
theorem d_P_stayApart_61 : decode me_P_stayApart.2.1 61 = .ok (.getfield 31, 3) := by decide +kernel
theorem d_P_stayApart_64 : decode me_P_stayApart.2.1 64 = .ok (.getfield 51, 3) := by decide +kernel
theorem d_P_stayApart_67 : decode me_P_stayApart.2.1 67 = .ok (.if_icmp .ge 44, 3) := by decide +kernel
theorem d_P_stayApart_70 : decode me_P_stayApart.2.1 70 = .ok (.aload_n 0, 1) := by decide +kernel
theorem d_P_stayApart_71 : decode me_P_stayApart.2.1 71 = .ok (.iload_n 3, 1) := by decide +kernel
theorem d_P_stayApart_72 : decode me_P_stayApart.2.1 72 = .ok (.invokevirtual 86, 3) := by decide +kernel
theorem d_P_stayApart_75 : decode me_P_stayApart.2.1 75 = .ok (.lstore 4, 2) := by decide +kernel
theorem d_P_stayApart_77 : decode me_P_stayApart.2.1 77 = .ok (.iload_n 1, 1) := by decide +kernel
theorem d_P_stayApart_78 : decode me_P_stayApart.2.1 78 = .ok (.lload 4, 2) := by decide +kernel
theorem d_P_stayApart_80 : decode me_P_stayApart.2.1 80 = .ok (.aload_n 0, 1) := by decide +kernel
theorem d_P_stayApart_81 : decode me_P_stayApart.2.1 81 = .ok (.getfield 9, 3) := by decide +kernel
theorem d_P_stayApart_84 : decode me_P_stayApart.2.1 84 = .ok (.iload_n 3, 1) := by decide +kernel
theorem d_P_stayApart_85 : decode me_P_stayApart.2.1 85 = .ok (.laload, 1) := by decide +kernel
theorem d_P_stayApart_86 : decode me_P_stayApart.2.1 86 = .ok (.lcmp, 1) := by decide +kernel
theorem d_P_stayApart_87 : decode me_P_stayApart.2.1 87 = .ok (.ifCond .eq 7, 3) := by decide +kernel
theorem d_P_stayApart_90 : decode me_P_stayApart.2.1 90 = .ok (.iconst 1, 1) := by decide +kernel
theorem d_P_stayApart_91 : decode me_P_stayApart.2.1 91 = .ok (.goto 4, 3) := by decide +kernel
theorem d_P_stayApart_94 : decode me_P_stayApart.2.1 94 = .ok (.iconst 0, 1) := by decide +kernel
theorem d_P_stayApart_95 : decode me_P_stayApart.2.1 95 = .ok (.ior, 1) := by decide +kernel
theorem d_P_stayApart_96 : decode me_P_stayApart.2.1 96 = .ok (.istore_n 1, 1) := by decide +kernel
theorem d_P_stayApart_97 : decode me_P_stayApart.2.1 97 = .ok (.aload_n 0, 1) := by decide +kernel
theorem d_P_stayApart_98 : decode me_P_stayApart.2.1 98 = .ok (.getfield 9, 3) := by decide +kernel
theorem d_P_stayApart_101 : decode me_P_stayApart.2.1 101 = .ok (.iload_n 3, 1) := by decide +kernel
theorem d_P_stayApart_102 : decode me_P_stayApart.2.1 102 = .ok (.lload 4, 2) := by decide +kernel
theorem d_P_stayApart_104 : decode me_P_stayApart.2.1 104 = .ok (.lastore, 1) := by decide +kernel
theorem d_P_stayApart_105 : decode me_P_stayApart.2.1 105 = .ok (.iinc 3 1, 3) := by decide +kernel
theorem d_P_stayApart_108 : decode me_P_stayApart.2.1 108 = .ok (.goto (-49), 3) := by decide +kernel
theorem d_P_stayApart_111 : decode me_P_stayApart.2.1 111 = .ok (.iinc 2 1, 3) := by decide +kernel
theorem d_P_stayApart_114 : decode me_P_stayApart.2.1 114 = .ok (.goto (-70), 3) := by decide +kernel
theorem d_P_stayApart_117 : decode me_P_stayApart.2.1 117 = .ok (.lconst 0, 1) := by decide +kernel
theorem d_P_stayApart_118 : decode me_P_stayApart.2.1 118 = .ok (.lstore_n 2, 1) := by decide +kernel
theorem d_P_stayApart_119 : decode me_P_stayApart.2.1 119 = .ok (.iconst 0, 1) := by decide +kernel
theorem d_P_stayApart_120 : decode me_P_stayApart.2.1 120 = .ok (.istore 4, 2) := by decide +kernel
theorem d_P_stayApart_122 : decode me_P_stayApart.2.1 122 = .ok (.iload 4, 2) := by decide +kernel
theorem d_P_stayApart_124 : decode me_P_stayApart.2.1 124 = .ok (.aload_n 0, 1) := by decide +kernel
theorem d_P_stayApart_125 : decode me_P_stayApart.2.1 125 = .ok (.getfield 31, 3) := by decide +kernel
theorem d_P_stayApart_128 : decode me_P_stayApart.2.1 128 = .ok (.getfield 51, 3) := by decide +kernel
theorem d_P_stayApart_131 : decode me_P_stayApart.2.1 131 = .ok (.if_icmp .ge 19, 3) := by decide +kernel
theorem d_P_stayApart_134 : decode me_P_stayApart.2.1 134 = .ok (.lload_n 2, 1) := by decide +kernel
theorem d_P_stayApart_135 : decode me_P_stayApart.2.1 135 = .ok (.aload_n 0, 1) := by decide +kernel
theorem d_P_stayApart_136 : decode me_P_stayApart.2.1 136 = .ok (.getfield 9, 3) := by decide +kernel
theorem d_P_stayApart_139 : decode me_P_stayApart.2.1 139 = .ok (.iload 4, 2) := by decide +kernel
theorem d_P_stayApart_141 : decode me_P_stayApart.2.1 141 = .ok (.laload, 1) := by decide +kernel
theorem d_P_stayApart_142 : decode me_P_stayApart.2.1 142 = .ok (.lor, 1) := by decide +kernel
theorem d_P_stayApart_143 : decode me_P_stayApart.2.1 143 = .ok (.lstore_n 2, 1) := by decide +kernel
theorem d_P_stayApart_144 : decode me_P_stayApart.2.1 144 = .ok (.iinc 4 1, 3) := by decide +kernel
theorem d_P_stayApart_147 : decode me_P_stayApart.2.1 147 = .ok (.goto (-25), 3) := by decide +kernel
theorem d_P_stayApart_150 : decode me_P_stayApart.2.1 150 = .ok (.lload_n 2, 1) := by decide +kernel
theorem d_P_stayApart_151 : decode me_P_stayApart.2.1 151 = .ok (.lconst 0, 1) := by decide +kernel
theorem d_P_stayApart_152 : decode me_P_stayApart.2.1 152 = .ok (.lcmp, 1) := by decide +kernel
theorem d_P_stayApart_153 : decode me_P_stayApart.2.1 153 = .ok (.ifCond .eq 7, 3) := by decide +kernel
theorem d_P_stayApart_156 : decode me_P_stayApart.2.1 156 = .ok (.iconst 1, 1) := by decide +kernel
theorem d_P_stayApart_157 : decode me_P_stayApart.2.1 157 = .ok (.goto 4, 3) := by decide +kernel
theorem d_P_stayApart_160 : decode me_P_stayApart.2.1 160 = .ok (.iconst 0, 1) := by decide +kernel
theorem d_P_stayApart_161 : decode me_P_stayApart.2.1 161 = .ok (.ireturn, 1) := by decide +kernel
abbrev G_P_stayApart_0 (l : Launch) (v : gs_V) (n : Nat) (post : Int32 → gs_S → Prop) (σ : gs_S) : Prop := gG l v lyC 42 me_P_stayApart n (qI v lyC 42 post) 0 [(0, .ref (v.2.2 14))] [] σ
abbrev G_P_stayApart_2 (l : Launch) (v : gs_V) (n : Nat) (post : Int32 → gs_S → Prop) (σ : gs_S) (x1 : Int32) : Prop := gG l v lyC 42 me_P_stayApart n (qI v lyC 42 post) 2 [(0, .ref (v.2.2 14)), (1, .int x1)] [] σ
abbrev G_P_stayApart_44 (l : Launch) (v : gs_V) (n : Nat) (post : Int32 → gs_S → Prop) (σ : gs_S) (x1 : Int32) (x2 : Int32) : Prop := gG l v lyC 42 me_P_stayApart n (qI v lyC 42 post) 44 [(0, .ref (v.2.2 14)), (1, .int x1), (2, .int x2)] [] σ
abbrev G_P_stayApart_59 (l : Launch) (v : gs_V) (n : Nat) (post : Int32 → gs_S → Prop) (σ : gs_S) (x1 : Int32) (x2 : Int32) (x3 : Int32) : Prop := gG l v lyC 42 me_P_stayApart n (qI v lyC 42 post) 59 [(0, .ref (v.2.2 14)), (1, .int x1), (2, .int x2), (3, .int x3)] [] σ
abbrev G_P_stayApart_95 (l : Launch) (v : gs_V) (n : Nat) (post : Int32 → gs_S → Prop) (σ : gs_S) (x2 : Int32) (x3 : Int32) (x4 : Int64) (s0 : Int32) (s1 : Int32) : Prop := gG l v lyC 42 me_P_stayApart n (qI v lyC 42 post) 95 [(0, .ref (v.2.2 14)), (2, .int x2), (3, .int x3), (4, .long x4)] [.int s0, .int s1] σ
abbrev G_P_stayApart_117 (l : Launch) (v : gs_V) (n : Nat) (post : Int32 → gs_S → Prop) (σ : gs_S) : Prop := gG l v lyC 42 me_P_stayApart n (qI v lyC 42 post) 117 [(0, .ref (v.2.2 14))] [] σ
abbrev G_P_stayApart_122 (l : Launch) (v : gs_V) (n : Nat) (post : Int32 → gs_S → Prop) (σ : gs_S) (x2 : Int64) (x4 : Int32) : Prop := gG l v lyC 42 me_P_stayApart n (qI v lyC 42 post) 122 [(0, .ref (v.2.2 14)), (2, .long x2), (4, .int x4)] [] σ
abbrev G_P_stayApart_161 (l : Launch) (v : gs_V) (n : Nat) (post : Int32 → gs_S → Prop) (σ : gs_S) (s0 : Int32) : Prop := gG l v lyC 42 me_P_stayApart n (qI v lyC 42 post) 161 [] [.int s0] σ
set_option maxRecDepth 20000 in
set_option maxHeartbeats 1000000 in
theorem T_P_stayApart_0 {l : Launch} {v : gs_V} {n : Nat} {post : Int32 → gs_S → Prop} {σ : gs_S} (h : G_P_stayApart_2 l v n post σ 0) : G_P_stayApart_0 l v n post σ := by
  refine g_iconst d_P_stayApart_0 (x := 0) (by decide) ?_
  refine g_istore_n (L' := [(1, .int 0), (0, .ref (v.2.2 14))]) d_P_stayApart_1 rfl (by decide) rfl ?_
  exact g_sub [1, 0] rfl h
set_option maxRecDepth 20000 in
set_option maxHeartbeats 1000000 in
theorem T_P_stayApart_2 {l : Launch} {v : gs_V} {n : Nat} {post : Int32 → gs_S → Prop} {σ : gs_S} {x1 : Int32} (h : (((σ.1 4 9) ≤ x1 → G_P_stayApart_44 l v n post σ 1 0) ∧ (¬ (σ.1 4 9) ≤ x1 → gM l v lyC 42 me_R_allNodes n [.ref (v.2.2 4)] σ (qL v lyC 42 (fun r1 σ1 => vp_in x1 64 ∧ G_P_stayApart_2 l v n post (gs_pL σ1 15 x1.toNatClampNeg (r1 &&& ((jS 1 x1) ^^^ ((-1))))) (x1 + 1)))))) : G_P_stayApart_2 l v n post σ x1 := by
  refine g_iload_n d_P_stayApart_2 1 rfl rfl ?_
  refine g_aload_n d_P_stayApart_3 0 rfl rfl ?_
  refine g_getV (x := .ref (v.2.2 4)) d_P_stayApart_4 fl_P_31 (by decide) rfl rfl rfl ?_
  refine g_getV (x := .int (σ.1 4 9)) d_P_stayApart_7 fl_P_51 (by decide) rfl rfl rfl ?_
  refine g_icmp_ge (tgt := 40) d_P_stayApart_10 rfl (fun hc => ?_) (fun hc => ?_)
  · have h := h.1 hc
    refine g_iconst d_P_stayApart_40 (x := 1) (by decide) ?_
    refine g_istore_n (L' := [(1, .int 1), (0, .ref (v.2.2 14))]) d_P_stayApart_41 rfl (by decide) rfl ?_
    refine g_iconst d_P_stayApart_42 (x := 0) (by decide) ?_
    refine g_istore_n (L' := [(2, .int 0), (1, .int 1), (0, .ref (v.2.2 14))]) d_P_stayApart_43 rfl (by decide) rfl ?_
    exact g_sub [2, 1, 0] rfl h
  · have h := h.2 hc
    refine g_aload_n d_P_stayApart_13 0 rfl rfl ?_
    refine g_getV (x := .ref (v.2.2 15)) d_P_stayApart_14 fl_P_9 (by decide) rfl rfl rfl ?_
    refine g_iload_n d_P_stayApart_17 1 rfl rfl ?_
    refine g_aload_n d_P_stayApart_18 0 rfl rfl ?_
    refine g_getV (x := .ref (v.2.2 4)) d_P_stayApart_19 fl_P_31 (by decide) rfl rfl rfl ?_
    refine g_callVl (av := []) (rest := [.int x1, .ref (v.2.2 15)]) d_P_stayApart_22 Y_R_allNodes lk_P_82 (by decide) rfl rfl I_R_allNodes rfl (Nat.le_of_ble_eq_true rfl) rfl h (fun r1 σ1 h => ?_)
    refine g_lconst d_P_stayApart_25 (x := 1) (by decide) ?_
    refine g_iload_n d_P_stayApart_26 1 rfl rfl ?_
    refine g_lshl d_P_stayApart_27 ?_
    refine g_ldc2 d_P_stayApart_28 (x := (-1)) (gw_t3 (List.mem_of_getElem? (i := 64) rfl) rfl) ?_
    refine g_lxor d_P_stayApart_31 ?_
    refine g_land d_P_stayApart_32 ?_
    have hi2 := h.1
    have h := h.2
    refine g_last d_P_stayApart_33 (by decide) rfl hi2 ?_
    refine g_iinc (L' := [(1, .int (x1 + 1)), (0, .ref (v.2.2 14))]) d_P_stayApart_34 1 rfl (by rfl) (by decide) rfl ?_
    refine g_goto (tgt := 2) d_P_stayApart_37 rfl ?_
    exact g_sub [1, 0] rfl h
set_option maxRecDepth 20000 in
set_option maxHeartbeats 1000000 in
theorem T_P_stayApart_44 {l : Launch} {v : gs_V} {n : Nat} {post : Int32 → gs_S → Prop} {σ : gs_S} {x1 : Int32} {x2 : Int32} (h : ((4096 < x2 → G_P_stayApart_117 l v n post σ) ∧ (¬ 4096 < x2 → ((x1 = 0 → G_P_stayApart_117 l v n post σ) ∧ (¬ x1 = 0 → G_P_stayApart_59 l v n post σ 0 x2 0))))) : G_P_stayApart_44 l v n post σ x1 x2 := by
  refine g_iload_n d_P_stayApart_44 2 rfl rfl ?_
  refine g_sipush d_P_stayApart_45 (x := 4096) (by decide) ?_
  refine g_icmp_gt (tgt := 117) d_P_stayApart_48 rfl (fun hc => ?_) (fun hc => ?_)
  · have h := h.1 hc
    exact g_sub [0] rfl h
  · have h := h.2 hc
    refine g_iload_n d_P_stayApart_51 1 rfl rfl ?_
    refine g_if_eq (tgt := 117) d_P_stayApart_52 rfl (fun hc => ?_) (fun hc => ?_)
    · have h := h.1 hc
      exact g_sub [0] rfl h
    · have h := h.2 hc
      refine g_iconst d_P_stayApart_55 (x := 0) (by decide) ?_
      refine g_istore_n (L' := [(1, .int 0), (0, .ref (v.2.2 14)), (2, .int x2)]) d_P_stayApart_56 rfl (by decide) rfl ?_
      refine g_iconst d_P_stayApart_57 (x := 0) (by decide) ?_
      refine g_istore_n (L' := [(3, .int 0), (1, .int 0), (0, .ref (v.2.2 14)), (2, .int x2)]) d_P_stayApart_58 rfl (by decide) rfl ?_
      exact g_sub [2, 1, 3, 0] rfl h
set_option maxRecDepth 20000 in
set_option maxHeartbeats 1000000 in
theorem T_P_stayApart_59 {l : Launch} {v : gs_V} {n : Nat} {post : Int32 → gs_S → Prop} {σ : gs_S} {x1 : Int32} {x2 : Int32} {x3 : Int32} (h : (((σ.1 4 9) ≤ x3 → G_P_stayApart_44 l v n post σ x1 (x2 + 1)) ∧ (¬ (σ.1 4 9) ≤ x3 → gM l v lyC 42 me_P_lasting n [.ref (v.2.2 14), .int x3] σ (qL v lyC 42 (fun r1 σ1 => vp_in x3 64 ∧ ((r1 = (σ1.2.1 15 x3.toNatClampNeg) → G_P_stayApart_95 l v n post σ1 x2 x3 r1 0 x1) ∧ (¬ r1 = (σ1.2.1 15 x3.toNatClampNeg) → G_P_stayApart_95 l v n post σ1 x2 x3 r1 1 x1))))))) : G_P_stayApart_59 l v n post σ x1 x2 x3 := by
  refine g_iload_n d_P_stayApart_59 3 rfl rfl ?_
  refine g_aload_n d_P_stayApart_60 0 rfl rfl ?_
  refine g_getV (x := .ref (v.2.2 4)) d_P_stayApart_61 fl_P_31 (by decide) rfl rfl rfl ?_
  refine g_getV (x := .int (σ.1 4 9)) d_P_stayApart_64 fl_P_51 (by decide) rfl rfl rfl ?_
  refine g_icmp_ge (tgt := 111) d_P_stayApart_67 rfl (fun hc => ?_) (fun hc => ?_)
  · have h := h.1 hc
    refine g_iinc (L' := [(2, .int (x2 + 1)), (0, .ref (v.2.2 14)), (1, .int x1), (3, .int x3)]) d_P_stayApart_111 2 rfl (by rfl) (by decide) rfl ?_
    refine g_goto (tgt := 44) d_P_stayApart_114 rfl ?_
    exact g_sub [1, 2, 0] rfl h
  · have h := h.2 hc
    refine g_aload_n d_P_stayApart_70 0 rfl rfl ?_
    refine g_iload_n d_P_stayApart_71 3 rfl rfl ?_
    refine g_callVl (av := [.int x3]) (rest := []) d_P_stayApart_72 Y_P_lasting lk_P_86 (by decide) rfl rfl I_P_lasting rfl (Nat.le_of_ble_eq_true rfl) rfl h (fun r1 σ1 h => ?_)
    refine g_lstore (L' := [(4, .long r1), (0, .ref (v.2.2 14)), (1, .int x1), (2, .int x2), (3, .int x3)]) d_P_stayApart_75 (by decide) rfl ?_
    refine g_iload_n d_P_stayApart_77 2 rfl rfl ?_
    refine g_lload d_P_stayApart_78 0 rfl ?_
    refine g_aload_n d_P_stayApart_80 1 rfl rfl ?_
    refine g_getV (x := .ref (v.2.2 15)) d_P_stayApart_81 fl_P_9 (by decide) rfl rfl rfl ?_
    refine g_iload_n d_P_stayApart_84 4 rfl rfl ?_
    have hi2 := h.1
    have h := h.2
    refine g_lald (x := σ1.2.1 15 x3.toNatClampNeg) d_P_stayApart_85 (by decide) rfl hi2 rfl ?_
    refine g_lcmp_eq (tgt := 94) d_P_stayApart_86 d_P_stayApart_87 rfl (fun hc => ?_) (fun hc => ?_)
    · have h := h.1 hc
      refine g_iconst d_P_stayApart_94 (x := 0) (by decide) ?_
      exact g_sub [1, 3, 4, 0] rfl h
    · have h := h.2 hc
      refine g_iconst d_P_stayApart_90 (x := 1) (by decide) ?_
      refine g_goto (tgt := 95) d_P_stayApart_91 rfl ?_
      exact g_sub [1, 3, 4, 0] rfl h
set_option maxRecDepth 20000 in
set_option maxHeartbeats 1000000 in
theorem T_P_stayApart_95 {l : Launch} {v : gs_V} {n : Nat} {post : Int32 → gs_S → Prop} {σ : gs_S} {x2 : Int32} {x3 : Int32} {x4 : Int64} {s0 : Int32} {s1 : Int32} (h : vp_in x3 64 ∧ G_P_stayApart_59 l v n post (gs_pL σ 15 x3.toNatClampNeg x4) (s1 ||| s0) x2 (x3 + 1)) : G_P_stayApart_95 l v n post σ x2 x3 x4 s0 s1 := by
  refine g_ior d_P_stayApart_95 ?_
  refine g_istore_n (L' := [(1, .int (s1 ||| s0)), (0, .ref (v.2.2 14)), (2, .int x2), (3, .int x3), (4, .long x4)]) d_P_stayApart_96 rfl (by decide) rfl ?_
  refine g_aload_n d_P_stayApart_97 1 rfl rfl ?_
  refine g_getV (x := .ref (v.2.2 15)) d_P_stayApart_98 fl_P_9 (by decide) rfl rfl rfl ?_
  refine g_iload_n d_P_stayApart_101 3 rfl rfl ?_
  refine g_lload d_P_stayApart_102 4 rfl ?_
  have hi1 := h.1
  have h := h.2
  refine g_last d_P_stayApart_104 (by decide) rfl hi1 ?_
  refine g_iinc (L' := [(3, .int (x3 + 1)), (1, .int (s1 ||| s0)), (0, .ref (v.2.2 14)), (2, .int x2), (4, .long x4)]) d_P_stayApart_105 3 rfl (by rfl) (by decide) rfl ?_
  refine g_goto (tgt := 59) d_P_stayApart_108 rfl ?_
  exact g_sub [2, 1, 3, 0] rfl h
set_option maxRecDepth 20000 in
set_option maxHeartbeats 1000000 in
theorem T_P_stayApart_117 {l : Launch} {v : gs_V} {n : Nat} {post : Int32 → gs_S → Prop} {σ : gs_S} (h : G_P_stayApart_122 l v n post σ 0 0) : G_P_stayApart_117 l v n post σ := by
  refine g_lconst d_P_stayApart_117 (x := 0) (by decide) ?_
  refine g_lstore_n (L' := [(2, .long 0), (0, .ref (v.2.2 14))]) d_P_stayApart_118 rfl (by decide) rfl ?_
  refine g_iconst d_P_stayApart_119 (x := 0) (by decide) ?_
  refine g_istore (L' := [(4, .int 0), (2, .long 0), (0, .ref (v.2.2 14))]) d_P_stayApart_120 (by decide) rfl ?_
  exact g_sub [2, 1, 0] rfl h
set_option maxRecDepth 20000 in
set_option maxHeartbeats 1000000 in
theorem T_P_stayApart_122 {l : Launch} {v : gs_V} {n : Nat} {post : Int32 → gs_S → Prop} {σ : gs_S} {x2 : Int64} {x4 : Int32} (h : (((σ.1 4 9) ≤ x4 → ((x2 = 0 → G_P_stayApart_161 l v n post σ 0) ∧ (¬ x2 = 0 → G_P_stayApart_161 l v n post σ 1))) ∧ (¬ (σ.1 4 9) ≤ x4 → vp_in x4 64 ∧ G_P_stayApart_122 l v n post σ (x2 ||| (σ.2.1 15 x4.toNatClampNeg)) (x4 + 1)))) : G_P_stayApart_122 l v n post σ x2 x4 := by
  refine g_iload d_P_stayApart_122 2 rfl ?_
  refine g_aload_n d_P_stayApart_124 0 rfl rfl ?_
  refine g_getV (x := .ref (v.2.2 4)) d_P_stayApart_125 fl_P_31 (by decide) rfl rfl rfl ?_
  refine g_getV (x := .int (σ.1 4 9)) d_P_stayApart_128 fl_P_51 (by decide) rfl rfl rfl ?_
  refine g_icmp_ge (tgt := 150) d_P_stayApart_131 rfl (fun hc => ?_) (fun hc => ?_)
  · have h := h.1 hc
    refine g_lload_n d_P_stayApart_150 1 rfl rfl ?_
    refine g_lconst d_P_stayApart_151 (x := 0) (by decide) ?_
    refine g_lcmp_eq (tgt := 160) d_P_stayApart_152 d_P_stayApart_153 rfl (fun hc => ?_) (fun hc => ?_)
    · have h := h.1 hc
      refine g_iconst d_P_stayApart_160 (x := 0) (by decide) ?_
      exact g_sub [] rfl h
    · have h := h.2 hc
      refine g_iconst d_P_stayApart_156 (x := 1) (by decide) ?_
      refine g_goto (tgt := 161) d_P_stayApart_157 rfl ?_
      exact g_sub [] rfl h
  · have h := h.2 hc
    refine g_lload_n d_P_stayApart_134 1 rfl rfl ?_
    refine g_aload_n d_P_stayApart_135 0 rfl rfl ?_
    refine g_getV (x := .ref (v.2.2 15)) d_P_stayApart_136 fl_P_9 (by decide) rfl rfl rfl ?_
    refine g_iload d_P_stayApart_139 2 rfl ?_
    have hi1 := h.1
    have h := h.2
    refine g_lald (x := σ.2.1 15 x4.toNatClampNeg) d_P_stayApart_141 (by decide) rfl hi1 rfl ?_
    refine g_lor d_P_stayApart_142 ?_
    refine g_lstore_n (L' := [(2, .long (x2 ||| (σ.2.1 15 x4.toNatClampNeg))), (0, .ref (v.2.2 14)), (4, .int x4)]) d_P_stayApart_143 rfl (by decide) rfl ?_
    refine g_iinc (L' := [(4, .int (x4 + 1)), (2, .long (x2 ||| (σ.2.1 15 x4.toNatClampNeg))), (0, .ref (v.2.2 14))]) d_P_stayApart_144 2 rfl (by rfl) (by decide) rfl ?_
    refine g_goto (tgt := 122) d_P_stayApart_147 rfl ?_
    exact g_sub [2, 1, 0] rfl h
set_option maxRecDepth 20000 in
set_option maxHeartbeats 1000000 in
theorem T_P_stayApart_161 {l : Launch} {v : gs_V} {n : Nat} {post : Int32 → gs_S → Prop} {σ : gs_S} {s0 : Int32} (h : narrow .boolean (.int s0) = .int s0 ∧ post s0 σ) : G_P_stayApart_161 l v n post σ s0 := by
  exact g_zret d_P_stayApart_161 rfl h.1 h.2
theorem E_P_stayApart {l : Launch} {v : gs_V} {n : Nat} {post : Int32 → gs_S → Prop} {σ : gs_S} (h : G_P_stayApart_0 l v n post σ) : gM l v lyC 42 me_P_stayApart (n + 1) [.ref (v.2.2 14)] σ (qI v lyC 42 post) := gM_of (by decide +kernel) (Nat.le_of_ble_eq_true rfl) h
/-! LineRules$Inverse.cellOf -/
theorem d_V_cellOf_0 : decode me_V_cellOf.2.1 0 = .ok (.aload_n 0, 1) := by decide +kernel
theorem d_V_cellOf_1 : decode me_V_cellOf.2.1 1 = .ok (.invokevirtual 34, 3) := by decide +kernel
theorem d_V_cellOf_4 : decode me_V_cellOf.2.1 4 = .ok (.aload_n 0, 1) := by decide +kernel
theorem d_V_cellOf_5 : decode me_V_cellOf.2.1 5 = .ok (.getfield 19, 3) := by decide +kernel
theorem d_V_cellOf_8 : decode me_V_cellOf.2.1 8 = .ok (.ifCond .eq 34, 3) := by decide +kernel
theorem d_V_cellOf_11 : decode me_V_cellOf.2.1 11 = .ok (.iload_n 1, 1) := by decide +kernel
theorem d_V_cellOf_12 : decode me_V_cellOf.2.1 12 = .ok (.ifCond .lt 30, 3) := by decide +kernel
theorem d_V_cellOf_15 : decode me_V_cellOf.2.1 15 = .ok (.iload_n 1, 1) := by decide +kernel
theorem d_V_cellOf_16 : decode me_V_cellOf.2.1 16 = .ok (.aload_n 0, 1) := by decide +kernel
theorem d_V_cellOf_17 : decode me_V_cellOf.2.1 17 = .ok (.getfield 26, 3) := by decide +kernel
theorem d_V_cellOf_20 : decode me_V_cellOf.2.1 20 = .ok (.getfield 37, 3) := by decide +kernel
theorem d_V_cellOf_23 : decode me_V_cellOf.2.1 23 = .ok (.aload_n 0, 1) := by decide +kernel
theorem d_V_cellOf_24 : decode me_V_cellOf.2.1 24 = .ok (.getfield 19, 3) := by decide +kernel
theorem d_V_cellOf_27 : decode me_V_cellOf.2.1 27 = .ok (.invokestatic 42, 3) := by decide +kernel
theorem d_V_cellOf_30 : decode me_V_cellOf.2.1 30 = .ok (.if_icmp .ge 12, 3) := by decide +kernel
theorem d_V_cellOf_33 : decode me_V_cellOf.2.1 33 = .ok (.aload_n 0, 1) := by decide +kernel
theorem d_V_cellOf_34 : decode me_V_cellOf.2.1 34 = .ok (.getfield 9, 3) := by decide +kernel
theorem d_V_cellOf_37 : decode me_V_cellOf.2.1 37 = .ok (.iload_n 1, 1) := by decide +kernel
theorem d_V_cellOf_38 : decode me_V_cellOf.2.1 38 = .ok (.iaload, 1) := by decide +kernel
theorem d_V_cellOf_39 : decode me_V_cellOf.2.1 39 = .ok (.ifCond .ge 5, 3) := by decide +kernel
theorem d_V_cellOf_42 : decode me_V_cellOf.2.1 42 = .ok (.iconst (-1), 1) := by decide +kernel
theorem d_V_cellOf_43 : decode me_V_cellOf.2.1 43 = .ok (.ireturn, 1) := by decide +kernel
theorem d_V_cellOf_44 : decode me_V_cellOf.2.1 44 = .ok (.aload_n 0, 1) := by decide +kernel
theorem d_V_cellOf_45 : decode me_V_cellOf.2.1 45 = .ok (.getfield 19, 3) := by decide +kernel
theorem d_V_cellOf_48 : decode me_V_cellOf.2.1 48 = .ok (.aload_n 0, 1) := by decide +kernel
theorem d_V_cellOf_49 : decode me_V_cellOf.2.1 49 = .ok (.getfield 26, 3) := by decide +kernel
theorem d_V_cellOf_52 : decode me_V_cellOf.2.1 52 = .ok (.getfield 46, 3) := by decide +kernel
theorem d_V_cellOf_55 : decode me_V_cellOf.2.1 55 = .ok (.iadd, 1) := by decide +kernel
theorem d_V_cellOf_56 : decode me_V_cellOf.2.1 56 = .ok (.iconst 2, 1) := by decide +kernel
theorem d_V_cellOf_57 : decode me_V_cellOf.2.1 57 = .ok (.isub, 1) := by decide +kernel
theorem d_V_cellOf_58 : decode me_V_cellOf.2.1 58 = .ok (.aload_n 0, 1) := by decide +kernel
theorem d_V_cellOf_59 : decode me_V_cellOf.2.1 59 = .ok (.getfield 23, 3) := by decide +kernel
theorem d_V_cellOf_62 : decode me_V_cellOf.2.1 62 = .ok (.isub, 1) := by decide +kernel
theorem d_V_cellOf_63 : decode me_V_cellOf.2.1 63 = .ok (.istore_n 2, 1) := by decide +kernel
theorem d_V_cellOf_64 : decode me_V_cellOf.2.1 64 = .ok (.aload_n 0, 1) := by decide +kernel
theorem d_V_cellOf_65 : decode me_V_cellOf.2.1 65 = .ok (.getfield 9, 3) := by decide +kernel
theorem d_V_cellOf_68 : decode me_V_cellOf.2.1 68 = .ok (.iload_n 1, 1) := by decide +kernel
theorem d_V_cellOf_69 : decode me_V_cellOf.2.1 69 = .ok (.iaload, 1) := by decide +kernel
theorem d_V_cellOf_70 : decode me_V_cellOf.2.1 70 = .ok (.aload_n 0, 1) := by decide +kernel
theorem d_V_cellOf_71 : decode me_V_cellOf.2.1 71 = .ok (.getfield 26, 3) := by decide +kernel
theorem d_V_cellOf_74 : decode me_V_cellOf.2.1 74 = .ok (.getfield 37, 3) := by decide +kernel
theorem d_V_cellOf_77 : decode me_V_cellOf.2.1 77 = .ok (.iload_n 2, 1) := by decide +kernel
theorem d_V_cellOf_78 : decode me_V_cellOf.2.1 78 = .ok (.invokestatic 42, 3) := by decide +kernel
theorem d_V_cellOf_81 : decode me_V_cellOf.2.1 81 = .ok (.idiv, 1) := by decide +kernel
theorem d_V_cellOf_82 : decode me_V_cellOf.2.1 82 = .ok (.aload_n 0, 1) := by decide +kernel
theorem d_V_cellOf_83 : decode me_V_cellOf.2.1 83 = .ok (.getfield 26, 3) := by decide +kernel
theorem d_V_cellOf_86 : decode me_V_cellOf.2.1 86 = .ok (.getfield 37, 3) := by decide +kernel
theorem d_V_cellOf_89 : decode me_V_cellOf.2.1 89 = .ok (.irem, 1) := by decide +kernel
theorem d_V_cellOf_90 : decode me_V_cellOf.2.1 90 = .ok (.ireturn, 1) := by decide +kernel
abbrev G_V_cellOf_0 (l : Launch) (v : gs_V) (n : Nat) (post : Int32 → gs_S → Prop) (σ : gs_S) (x1 : Int32) : Prop := gG l v lyC 42 me_V_cellOf n (qI v lyC 42 post) 0 [(0, .ref (v.2.2 17)), (1, .int x1)] [] σ
abbrev G_V_cellOf_42 (l : Launch) (v : gs_V) (n : Nat) (post : Int32 → gs_S → Prop) (σ : gs_S) : Prop := gG l v lyC 42 me_V_cellOf n (qI v lyC 42 post) 42 [] [] σ
set_option maxRecDepth 20000 in
set_option maxHeartbeats 1000000 in
theorem T_V_cellOf_0 {l : Launch} {v : gs_V} {n : Nat} {post : Int32 → gs_S → Prop} {σ : gs_S} {x1 : Int32} (h : gM l v lyC 42 me_V_find n [.ref (v.2.2 17)] σ (qV v lyC 42 (fun σ1 => (((σ1.1 17 4) = 0 → G_V_cellOf_42 l v n post σ1) ∧ (¬ (σ1.1 17 4) = 0 → ((x1 < 0 → G_V_cellOf_42 l v n post σ1) ∧ (¬ x1 < 0 → gM l v lyC 42 me_A_power n [.int (σ1.1 4 6), .int (σ1.1 17 4)] σ1 (qI v lyC 42 (fun r2 σ2 => ((r2 ≤ x1 → G_V_cellOf_42 l v n post σ2) ∧ (¬ r2 ≤ x1 → vp_in x1 1024 ∧ ((0 ≤ (σ2.1 18 x1.toNatClampNeg) → vp_in x1 1024 ∧ gM l v lyC 42 me_A_power n [.int (σ2.1 4 6), .int ((((σ2.1 17 4) + (σ2.1 4 7)) - 2) - (σ2.1 17 5))] σ2 (qI v lyC 42 (fun r5 σ5 => ¬ r5 = 0 ∧ ¬ (σ5.1 4 6) = 0 ∧ post (jR ((σ2.1 18 x1.toNatClampNeg) / r5) (σ5.1 4 6)) σ5))) ∧ (¬ 0 ≤ (σ2.1 18 x1.toNatClampNeg) → G_V_cellOf_42 l v n post σ2))))))))))))) : G_V_cellOf_0 l v n post σ x1 := by
  refine g_aload_n d_V_cellOf_0 0 rfl rfl ?_
  refine g_callVv (av := []) (rest := []) d_V_cellOf_1 Y_V_find lk_V_34 (by decide) rfl rfl I_V_find rfl (Nat.le_of_ble_eq_true rfl) rfl h (fun σ1 h => ?_)
  refine g_aload_n d_V_cellOf_4 0 rfl rfl ?_
  refine g_getV (x := .int (σ1.1 17 4)) d_V_cellOf_5 fl_V_19 (by decide) rfl rfl rfl ?_
  refine g_if_eq (tgt := 42) d_V_cellOf_8 rfl (fun hc => ?_) (fun hc => ?_)
  · have h := h.1 hc
    exact g_sub [] rfl h
  · have h := h.2 hc
    refine g_iload_n d_V_cellOf_11 1 rfl rfl ?_
    refine g_if_lt (tgt := 42) d_V_cellOf_12 rfl (fun hc => ?_) (fun hc => ?_)
    · have h := h.1 hc
      exact g_sub [] rfl h
    · have h := h.2 hc
      refine g_iload_n d_V_cellOf_15 1 rfl rfl ?_
      refine g_aload_n d_V_cellOf_16 0 rfl rfl ?_
      refine g_getV (x := .ref (v.2.2 4)) d_V_cellOf_17 fl_V_26 (by decide) rfl rfl rfl ?_
      refine g_getV (x := .int (σ1.1 4 6)) d_V_cellOf_20 fl_V_37 (by decide) rfl rfl rfl ?_
      refine g_aload_n d_V_cellOf_23 0 rfl rfl ?_
      refine g_getV (x := .int (σ1.1 17 4)) d_V_cellOf_24 fl_V_19 (by decide) rfl rfl rfl ?_
      refine g_callSNi (av := [.int (σ1.1 4 6), .int (σ1.1 17 4)]) (rest := [.int x1]) d_V_cellOf_27 Y_A_power lk_V_42 I_A_power rfl (Nat.le_of_ble_eq_true rfl) rfl h (fun r2 σ2 h => ?_)
      refine g_icmp_ge (tgt := 42) d_V_cellOf_30 rfl (fun hc => ?_) (fun hc => ?_)
      · have h := h.1 hc
        exact g_sub [] rfl h
      · have h := h.2 hc
        refine g_aload_n d_V_cellOf_33 0 rfl rfl ?_
        refine g_getV (x := .ref (v.2.2 18)) d_V_cellOf_34 fl_V_9 (by decide) rfl rfl rfl ?_
        refine g_iload_n d_V_cellOf_37 1 rfl rfl ?_
        have hi3 := h.1
        have h := h.2
        refine g_iald (x := σ2.1 18 x1.toNatClampNeg) d_V_cellOf_38 (by decide) rfl hi3 rfl ?_
        refine g_if_ge (tgt := 44) d_V_cellOf_39 rfl (fun hc => ?_) (fun hc => ?_)
        · have h := h.1 hc
          refine g_aload_n d_V_cellOf_44 0 rfl rfl ?_
          refine g_getV (x := .int (σ2.1 17 4)) d_V_cellOf_45 fl_V_19 (by decide) rfl rfl rfl ?_
          refine g_aload_n d_V_cellOf_48 0 rfl rfl ?_
          refine g_getV (x := .ref (v.2.2 4)) d_V_cellOf_49 fl_V_26 (by decide) rfl rfl rfl ?_
          refine g_getV (x := .int (σ2.1 4 7)) d_V_cellOf_52 fl_V_46 (by decide) rfl rfl rfl ?_
          refine g_iadd d_V_cellOf_55 ?_
          refine g_iconst d_V_cellOf_56 (x := 2) (by decide) ?_
          refine g_isub d_V_cellOf_57 ?_
          refine g_aload_n d_V_cellOf_58 0 rfl rfl ?_
          refine g_getV (x := .int (σ2.1 17 5)) d_V_cellOf_59 fl_V_23 (by decide) rfl rfl rfl ?_
          refine g_isub d_V_cellOf_62 ?_
          refine g_istore_n (L' := [(2, .int ((((σ2.1 17 4) + (σ2.1 4 7)) - 2) - (σ2.1 17 5))), (0, .ref (v.2.2 17)), (1, .int x1)]) d_V_cellOf_63 rfl (by decide) rfl ?_
          refine g_aload_n d_V_cellOf_64 1 rfl rfl ?_
          refine g_getV (x := .ref (v.2.2 18)) d_V_cellOf_65 fl_V_9 (by decide) rfl rfl rfl ?_
          refine g_iload_n d_V_cellOf_68 2 rfl rfl ?_
          have hi4 := h.1
          have h := h.2
          refine g_iald (x := σ2.1 18 x1.toNatClampNeg) d_V_cellOf_69 (by decide) rfl hi4 rfl ?_
          refine g_aload_n d_V_cellOf_70 1 rfl rfl ?_
          refine g_getV (x := .ref (v.2.2 4)) d_V_cellOf_71 fl_V_26 (by decide) rfl rfl rfl ?_
          refine g_getV (x := .int (σ2.1 4 6)) d_V_cellOf_74 fl_V_37 (by decide) rfl rfl rfl ?_
          refine g_iload_n d_V_cellOf_77 0 rfl rfl ?_
          refine g_callSNi (av := [.int (σ2.1 4 6), .int ((((σ2.1 17 4) + (σ2.1 4 7)) - 2) - (σ2.1 17 5))]) (rest := [.int (σ2.1 18 x1.toNatClampNeg)]) d_V_cellOf_78 Y_A_power lk_V_42 I_A_power rfl (Nat.le_of_ble_eq_true rfl) rfl h (fun r5 σ5 h => ?_)
          refine g_idiv d_V_cellOf_81 h.1 ?_
          have h := h.2
          refine g_aload_n d_V_cellOf_82 1 rfl rfl ?_
          refine g_getV (x := .ref (v.2.2 4)) d_V_cellOf_83 fl_V_26 (by decide) rfl rfl rfl ?_
          refine g_getV (x := .int (σ5.1 4 6)) d_V_cellOf_86 fl_V_37 (by decide) rfl rfl rfl ?_
          refine g_irem d_V_cellOf_89 h.1 ?_
          have h := h.2
          exact g_iret d_V_cellOf_90 rfl h
        · have h := h.2 hc
          exact g_sub [] rfl h
set_option maxRecDepth 20000 in
set_option maxHeartbeats 1000000 in
theorem T_V_cellOf_42 {l : Launch} {v : gs_V} {n : Nat} {post : Int32 → gs_S → Prop} {σ : gs_S} (h : post ((-1)) σ) : G_V_cellOf_42 l v n post σ := by
  refine g_iconst d_V_cellOf_42 (x := (-1)) (by decide) ?_
  exact g_iret d_V_cellOf_43 rfl h
theorem E_V_cellOf {l : Launch} {v : gs_V} {n : Nat} {post : Int32 → gs_S → Prop} {σ : gs_S} {x1 : Int32} (h : G_V_cellOf_0 l v n post σ x1) : gM l v lyC 42 me_V_cellOf (n + 1) [.ref (v.2.2 17), .int x1] σ (qI v lyC 42 post) := gM_of (by decide +kernel) (Nat.le_of_ble_eq_true rfl) h
/-! LineRules$Inverse.find -/
theorem d_V_find_0 : decode me_V_find.2.1 0 = .ok (.aload_n 0, 1) := by decide +kernel
theorem d_V_find_1 : decode me_V_find.2.1 1 = .ok (.getfield 15, 3) := by decide +kernel
theorem d_V_find_4 : decode me_V_find.2.1 4 = .ok (.ifCond .eq 4, 3) := by decide +kernel
theorem d_V_find_7 : decode me_V_find.2.1 7 = .ok (.return_, 1) := by decide +kernel
theorem d_V_find_8 : decode me_V_find.2.1 8 = .ok (.aload_n 0, 1) := by decide +kernel
theorem d_V_find_9 : decode me_V_find.2.1 9 = .ok (.iconst 1, 1) := by decide +kernel
theorem d_V_find_10 : decode me_V_find.2.1 10 = .ok (.putfield 15, 3) := by decide +kernel
theorem d_V_find_13 : decode me_V_find.2.1 13 = .ok (.aload_n 0, 1) := by decide +kernel
theorem d_V_find_14 : decode me_V_find.2.1 14 = .ok (.iconst 0, 1) := by decide +kernel
theorem d_V_find_15 : decode me_V_find.2.1 15 = .ok (.putfield 19, 3) := by decide +kernel
theorem d_V_find_18 : decode me_V_find.2.1 18 = .ok (.aload_n 0, 1) := by decide +kernel
theorem d_V_find_19 : decode me_V_find.2.1 19 = .ok (.iconst 0, 1) := by decide +kernel
theorem d_V_find_20 : decode me_V_find.2.1 20 = .ok (.putfield 23, 3) := by decide +kernel
theorem d_V_find_23 : decode me_V_find.2.1 23 = .ok (.aload_n 0, 1) := by decide +kernel
theorem d_V_find_24 : decode me_V_find.2.1 24 = .ok (.getfield 30, 3) := by decide +kernel
theorem d_V_find_27 : decode me_V_find.2.1 27 = .ok (.invokevirtual 49, 3) := by decide +kernel
theorem d_V_find_30 : decode me_V_find.2.1 30 = .ok (.ifCond .ne 4, 3) := by decide +kernel
theorem d_V_find_33 : decode me_V_find.2.1 33 = .ok (.return_, 1) := by decide +kernel
theorem d_V_find_34 : decode me_V_find.2.1 34 = .ok (.iconst 1, 1) := by decide +kernel
theorem d_V_find_35 : decode me_V_find.2.1 35 = .ok (.istore_n 1, 1) := by decide +kernel
theorem d_V_find_36 : decode me_V_find.2.1 36 = .ok (.iload_n 1, 1) := by decide +kernel
theorem d_V_find_37 : decode me_V_find.2.1 37 = .ok (.iconst 5, 1) := by decide +kernel
theorem d_V_find_38 : decode me_V_find.2.1 38 = .ok (.if_icmp .gt 26, 3) := by decide +kernel
theorem d_V_find_41 : decode me_V_find.2.1 41 = .ok (.aload_n 0, 1) := by decide +kernel
theorem d_V_find_42 : decode me_V_find.2.1 42 = .ok (.getfield 19, 3) := by decide +kernel
theorem d_V_find_45 : decode me_V_find.2.1 45 = .ok (.ifCond .ne 19, 3) := by decide +kernel
theorem d_V_find_48 : decode me_V_find.2.1 48 = .ok (.aload_n 0, 1) := by decide +kernel
theorem d_V_find_49 : decode me_V_find.2.1 49 = .ok (.iload_n 1, 1) := by decide +kernel
theorem d_V_find_50 : decode me_V_find.2.1 50 = .ok (.aload_n 0, 1) := by decide +kernel
theorem d_V_find_51 : decode me_V_find.2.1 51 = .ok (.iload_n 1, 1) := by decide +kernel
theorem d_V_find_52 : decode me_V_find.2.1 52 = .ok (.invokevirtual 55, 3) := by decide +kernel
theorem d_V_find_55 : decode me_V_find.2.1 55 = .ok (.invokevirtual 59, 3) := by decide +kernel
theorem d_V_find_58 : decode me_V_find.2.1 58 = .ok (.iinc 1 1, 3) := by decide +kernel
theorem d_V_find_61 : decode me_V_find.2.1 61 = .ok (.goto (-25), 3) := by decide +kernel
theorem d_V_find_64 : decode me_V_find.2.1 64 = .ok (.return_, 1) := by decide +kernel
abbrev G_V_find_0 (l : Launch) (v : gs_V) (n : Nat) (post : gs_S → Prop) (σ : gs_S) : Prop := gG l v lyC 42 me_V_find n (qV v lyC 42 post) 0 [(0, .ref (v.2.2 17))] [] σ
abbrev G_V_find_36 (l : Launch) (v : gs_V) (n : Nat) (post : gs_S → Prop) (σ : gs_S) (x1 : Int32) : Prop := gG l v lyC 42 me_V_find n (qV v lyC 42 post) 36 [(0, .ref (v.2.2 17)), (1, .int x1)] [] σ
abbrev G_V_find_64 (l : Launch) (v : gs_V) (n : Nat) (post : gs_S → Prop) (σ : gs_S) : Prop := gG l v lyC 42 me_V_find n (qV v lyC 42 post) 64 [] [] σ
set_option maxRecDepth 20000 in
set_option maxHeartbeats 1000000 in
theorem T_V_find_0 {l : Launch} {v : gs_V} {n : Nat} {post : gs_S → Prop} {σ : gs_S} (h : (((σ.1 17 3) = 0 → gM l v lyC 42 me_P_losesNothing n [.ref (v.2.2 14)] (gs_pI (gs_pI (gs_pI σ 17 3 1) 17 4 0) 17 5 0) (qI v lyC 42 (fun r1 σ1 => ((¬ r1 = 0 → G_V_find_36 l v n post σ1 1) ∧ (r1 = 0 → post σ1))))) ∧ (¬ (σ.1 17 3) = 0 → post σ))) : G_V_find_0 l v n post σ := by
  refine g_aload_n d_V_find_0 0 rfl rfl ?_
  refine g_getV (x := .int (σ.1 17 3)) d_V_find_1 fl_V_15 (by decide) rfl rfl rfl ?_
  refine g_if_eq (tgt := 8) d_V_find_4 rfl (fun hc => ?_) (fun hc => ?_)
  · have h := h.1 hc
    refine g_aload_n d_V_find_8 0 rfl rfl ?_
    refine g_iconst d_V_find_9 (x := 1) (by decide) ?_
    refine g_putI d_V_find_10 fp_V_15 (by decide) rfl rfl ⟨rfl, rfl⟩ ?_
    refine g_aload_n d_V_find_13 0 rfl rfl ?_
    refine g_iconst d_V_find_14 (x := 0) (by decide) ?_
    refine g_putI d_V_find_15 fp_V_19 (by decide) rfl rfl ⟨rfl, rfl⟩ ?_
    refine g_aload_n d_V_find_18 0 rfl rfl ?_
    refine g_iconst d_V_find_19 (x := 0) (by decide) ?_
    refine g_putI d_V_find_20 fp_V_23 (by decide) rfl rfl ⟨rfl, rfl⟩ ?_
    refine g_aload_n d_V_find_23 0 rfl rfl ?_
    refine g_getV (x := .ref (v.2.2 14)) d_V_find_24 fl_V_30 (by decide) rfl rfl rfl ?_
    refine g_callVi (av := []) (rest := []) d_V_find_27 Y_P_losesNothing lk_V_49 (by decide) rfl rfl I_P_losesNothing rfl (Nat.le_of_ble_eq_true rfl) rfl h (fun r1 σ1 h => ?_)
    refine g_if_ne (tgt := 34) d_V_find_30 rfl (fun hc => ?_) (fun hc => ?_)
    · have h := h.1 hc
      refine g_iconst d_V_find_34 (x := 1) (by decide) ?_
      refine g_istore_n (L' := [(1, .int 1), (0, .ref (v.2.2 17))]) d_V_find_35 rfl (by decide) rfl ?_
      exact g_sub [1, 0] rfl h
    · have h := h.2 hc
      exact g_vret d_V_find_33 rfl h
  · have h := h.2 hc
    exact g_vret d_V_find_7 rfl h
set_option maxRecDepth 20000 in
set_option maxHeartbeats 1000000 in
theorem T_V_find_36 {l : Launch} {v : gs_V} {n : Nat} {post : gs_S → Prop} {σ : gs_S} {x1 : Int32} (h : ((5 < x1 → G_V_find_64 l v n post σ) ∧ (¬ 5 < x1 → ((¬ (σ.1 17 4) = 0 → G_V_find_64 l v n post σ) ∧ ((σ.1 17 4) = 0 → gM l v lyC 42 me_V_placesTold n [.ref (v.2.2 17), .int x1] σ (qI v lyC 42 (fun r1 σ1 => gM l v lyC 42 me_V_takeLeast n [.ref (v.2.2 17), .int x1, .int r1] σ1 (qV v lyC 42 (fun σ2 => G_V_find_36 l v n post σ2 (x1 + 1)))))))))) : G_V_find_36 l v n post σ x1 := by
  refine g_iload_n d_V_find_36 1 rfl rfl ?_
  refine g_iconst d_V_find_37 (x := 5) (by decide) ?_
  refine g_icmp_gt (tgt := 64) d_V_find_38 rfl (fun hc => ?_) (fun hc => ?_)
  · have h := h.1 hc
    exact g_sub [] rfl h
  · have h := h.2 hc
    refine g_aload_n d_V_find_41 0 rfl rfl ?_
    refine g_getV (x := .int (σ.1 17 4)) d_V_find_42 fl_V_19 (by decide) rfl rfl rfl ?_
    refine g_if_ne (tgt := 64) d_V_find_45 rfl (fun hc => ?_) (fun hc => ?_)
    · have h := h.1 hc
      exact g_sub [] rfl h
    · have h := h.2 hc
      refine g_aload_n d_V_find_48 0 rfl rfl ?_
      refine g_iload_n d_V_find_49 1 rfl rfl ?_
      refine g_aload_n d_V_find_50 0 rfl rfl ?_
      refine g_iload_n d_V_find_51 1 rfl rfl ?_
      refine g_callVi (av := [.int x1]) (rest := [.int x1, .ref (v.2.2 17)]) d_V_find_52 Y_V_placesTold lk_V_55 (by decide) rfl rfl I_V_placesTold rfl (Nat.le_of_ble_eq_true rfl) rfl h (fun r1 σ1 h => ?_)
      refine g_callVv (av := [.int x1, .int r1]) (rest := []) d_V_find_55 Y_V_takeLeast lk_V_59 (by decide) rfl rfl I_V_takeLeast rfl (Nat.le_of_ble_eq_true rfl) rfl h (fun σ2 h => ?_)
      refine g_iinc (L' := [(1, .int (x1 + 1)), (0, .ref (v.2.2 17))]) d_V_find_58 1 rfl (by rfl) (by decide) rfl ?_
      refine g_goto (tgt := 36) d_V_find_61 rfl ?_
      exact g_sub [1, 0] rfl h
set_option maxRecDepth 20000 in
set_option maxHeartbeats 1000000 in
theorem T_V_find_64 {l : Launch} {v : gs_V} {n : Nat} {post : gs_S → Prop} {σ : gs_S} (h : post σ) : G_V_find_64 l v n post σ := by
  exact g_vret d_V_find_64 rfl h
theorem E_V_find {l : Launch} {v : gs_V} {n : Nat} {post : gs_S → Prop} {σ : gs_S} (h : G_V_find_0 l v n post σ) : gM l v lyC 42 me_V_find (n + 1) [.ref (v.2.2 17)] σ (qV v lyC 42 post) := gM_of (by decide +kernel) (Nat.le_of_ble_eq_true rfl) h
/-! LineRules$Inverse.forget -/
theorem d_V_forget_0 : decode me_V_forget.2.1 0 = .ok (.aload_n 0, 1) := by decide +kernel
theorem d_V_forget_1 : decode me_V_forget.2.1 1 = .ok (.iconst 0, 1) := by decide +kernel
theorem d_V_forget_2 : decode me_V_forget.2.1 2 = .ok (.putfield 15, 3) := by decide +kernel
theorem d_V_forget_5 : decode me_V_forget.2.1 5 = .ok (.return_, 1) := by decide +kernel
abbrev G_V_forget_0 (l : Launch) (v : gs_V) (n : Nat) (post : gs_S → Prop) (σ : gs_S) : Prop := gG l v lyC 42 me_V_forget n (qV v lyC 42 post) 0 [(0, .ref (v.2.2 17))] [] σ
set_option maxRecDepth 20000 in
set_option maxHeartbeats 1000000 in
theorem T_V_forget_0 {l : Launch} {v : gs_V} {n : Nat} {post : gs_S → Prop} {σ : gs_S} (h : post (gs_pI σ 17 3 0)) : G_V_forget_0 l v n post σ := by
  refine g_aload_n d_V_forget_0 0 rfl rfl ?_
  refine g_iconst d_V_forget_1 (x := 0) (by decide) ?_
  refine g_putI d_V_forget_2 fp_V_15 (by decide) rfl rfl ⟨rfl, rfl⟩ ?_
  exact g_vret d_V_forget_5 rfl h
theorem E_V_forget {l : Launch} {v : gs_V} {n : Nat} {post : gs_S → Prop} {σ : gs_S} (h : G_V_forget_0 l v n post σ) : gM l v lyC 42 me_V_forget (n + 1) [.ref (v.2.2 17)] σ (qV v lyC 42 post) := gM_of (by decide +kernel) (Nat.le_of_ble_eq_true rfl) h
/-! LineRules$Inverse.madeOf -/
theorem d_V_madeOf_0 : decode me_V_madeOf.2.1 0 = .ok (.iconst 0, 1) := by decide +kernel
theorem d_V_madeOf_1 : decode me_V_madeOf.2.1 1 = .ok (.istore_n 3, 1) := by decide +kernel
theorem d_V_madeOf_2 : decode me_V_madeOf.2.1 2 = .ok (.iconst 1, 1) := by decide +kernel
theorem d_V_madeOf_3 : decode me_V_madeOf.2.1 3 = .ok (.istore 4, 2) := by decide +kernel
theorem d_V_madeOf_5 : decode me_V_madeOf.2.1 5 = .ok (.iload_n 1, 1) := by decide +kernel
theorem d_V_madeOf_6 : decode me_V_madeOf.2.1 6 = .ok (.istore 5, 2) := by decide +kernel
theorem d_V_madeOf_8 : decode me_V_madeOf.2.1 8 = .ok (.iconst 0, 1) := by decide +kernel
theorem d_V_madeOf_9 : decode me_V_madeOf.2.1 9 = .ok (.istore 6, 2) := by decide +kernel
theorem d_V_madeOf_11 : decode me_V_madeOf.2.1 11 = .ok (.iload 6, 2) := by decide +kernel
theorem d_V_madeOf_13 : decode me_V_madeOf.2.1 13 = .ok (.iload_n 2, 1) := by decide +kernel
theorem d_V_madeOf_14 : decode me_V_madeOf.2.1 14 = .ok (.if_icmp .ge 57, 3) := by decide +kernel
theorem d_V_madeOf_17 : decode me_V_madeOf.2.1 17 = .ok (.iload_n 3, 1) := by decide +kernel
theorem d_V_madeOf_18 : decode me_V_madeOf.2.1 18 = .ok (.aload_n 0, 1) := by decide +kernel
theorem d_V_madeOf_19 : decode me_V_madeOf.2.1 19 = .ok (.getfield 26, 3) := by decide +kernel
theorem d_V_madeOf_22 : decode me_V_madeOf.2.1 22 = .ok (.getfield 76, 3) := by decide +kernel
theorem d_V_madeOf_25 : decode me_V_madeOf.2.1 25 = .ok (.iload 5, 2) := by decide +kernel
theorem d_V_madeOf_27 : decode me_V_madeOf.2.1 27 = .ok (.aload_n 0, 1) := by decide +kernel
theorem d_V_madeOf_28 : decode me_V_madeOf.2.1 28 = .ok (.getfield 26, 3) := by decide +kernel
theorem d_V_madeOf_31 : decode me_V_madeOf.2.1 31 = .ok (.getfield 79, 3) := by decide +kernel
theorem d_V_madeOf_34 : decode me_V_madeOf.2.1 34 = .ok (.irem, 1) := by decide +kernel
theorem d_V_madeOf_35 : decode me_V_madeOf.2.1 35 = .ok (.iaload, 1) := by decide +kernel
theorem d_V_madeOf_36 : decode me_V_madeOf.2.1 36 = .ok (.iload 4, 2) := by decide +kernel
theorem d_V_madeOf_38 : decode me_V_madeOf.2.1 38 = .ok (.imul, 1) := by decide +kernel
theorem d_V_madeOf_39 : decode me_V_madeOf.2.1 39 = .ok (.iadd, 1) := by decide +kernel
theorem d_V_madeOf_40 : decode me_V_madeOf.2.1 40 = .ok (.istore_n 3, 1) := by decide +kernel
theorem d_V_madeOf_41 : decode me_V_madeOf.2.1 41 = .ok (.iload 4, 2) := by decide +kernel
theorem d_V_madeOf_43 : decode me_V_madeOf.2.1 43 = .ok (.aload_n 0, 1) := by decide +kernel
theorem d_V_madeOf_44 : decode me_V_madeOf.2.1 44 = .ok (.getfield 26, 3) := by decide +kernel
theorem d_V_madeOf_47 : decode me_V_madeOf.2.1 47 = .ok (.getfield 37, 3) := by decide +kernel
theorem d_V_madeOf_50 : decode me_V_madeOf.2.1 50 = .ok (.imul, 1) := by decide +kernel
theorem d_V_madeOf_51 : decode me_V_madeOf.2.1 51 = .ok (.istore 4, 2) := by decide +kernel
theorem d_V_madeOf_53 : decode me_V_madeOf.2.1 53 = .ok (.iload 5, 2) := by decide +kernel
theorem d_V_madeOf_55 : decode me_V_madeOf.2.1 55 = .ok (.aload_n 0, 1) := by decide +kernel
theorem d_V_madeOf_56 : decode me_V_madeOf.2.1 56 = .ok (.getfield 26, 3) := by decide +kernel
theorem d_V_madeOf_59 : decode me_V_madeOf.2.1 59 = .ok (.getfield 37, 3) := by decide +kernel
theorem d_V_madeOf_62 : decode me_V_madeOf.2.1 62 = .ok (.idiv, 1) := by decide +kernel
theorem d_V_madeOf_63 : decode me_V_madeOf.2.1 63 = .ok (.istore 5, 2) := by decide +kernel
theorem d_V_madeOf_65 : decode me_V_madeOf.2.1 65 = .ok (.iinc 6 1, 3) := by decide +kernel
theorem d_V_madeOf_68 : decode me_V_madeOf.2.1 68 = .ok (.goto (-57), 3) := by decide +kernel
theorem d_V_madeOf_71 : decode me_V_madeOf.2.1 71 = .ok (.iload_n 3, 1) := by decide +kernel
theorem d_V_madeOf_72 : decode me_V_madeOf.2.1 72 = .ok (.ireturn, 1) := by decide +kernel
abbrev G_V_madeOf_0 (l : Launch) (v : gs_V) (n : Nat) (post : Int32 → gs_S → Prop) (σ : gs_S) (x1 : Int32) (x2 : Int32) : Prop := gG l v lyC 42 me_V_madeOf n (qI v lyC 42 post) 0 [(0, .ref (v.2.2 17)), (1, .int x1), (2, .int x2)] [] σ
abbrev G_V_madeOf_11 (l : Launch) (v : gs_V) (n : Nat) (post : Int32 → gs_S → Prop) (σ : gs_S) (x2 : Int32) (x3 : Int32) (x4 : Int32) (x5 : Int32) (x6 : Int32) : Prop := gG l v lyC 42 me_V_madeOf n (qI v lyC 42 post) 11 [(0, .ref (v.2.2 17)), (2, .int x2), (3, .int x3), (4, .int x4), (5, .int x5), (6, .int x6)] [] σ
set_option maxRecDepth 20000 in
set_option maxHeartbeats 1000000 in
theorem T_V_madeOf_0 {l : Launch} {v : gs_V} {n : Nat} {post : Int32 → gs_S → Prop} {σ : gs_S} {x1 : Int32} {x2 : Int32} (h : G_V_madeOf_11 l v n post σ x2 0 1 x1 0) : G_V_madeOf_0 l v n post σ x1 x2 := by
  refine g_iconst d_V_madeOf_0 (x := 0) (by decide) ?_
  refine g_istore_n (L' := [(3, .int 0), (0, .ref (v.2.2 17)), (1, .int x1), (2, .int x2)]) d_V_madeOf_1 rfl (by decide) rfl ?_
  refine g_iconst d_V_madeOf_2 (x := 1) (by decide) ?_
  refine g_istore (L' := [(4, .int 1), (3, .int 0), (0, .ref (v.2.2 17)), (1, .int x1), (2, .int x2)]) d_V_madeOf_3 (by decide) rfl ?_
  refine g_iload_n d_V_madeOf_5 3 rfl rfl ?_
  refine g_istore (L' := [(5, .int x1), (4, .int 1), (3, .int 0), (0, .ref (v.2.2 17)), (1, .int x1), (2, .int x2)]) d_V_madeOf_6 (by decide) rfl ?_
  refine g_iconst d_V_madeOf_8 (x := 0) (by decide) ?_
  refine g_istore (L' := [(6, .int 0), (5, .int x1), (4, .int 1), (3, .int 0), (0, .ref (v.2.2 17)), (1, .int x1), (2, .int x2)]) d_V_madeOf_9 (by decide) rfl ?_
  exact g_sub [4, 6, 3, 2, 1, 0] rfl h
set_option maxRecDepth 20000 in
set_option maxHeartbeats 1000000 in
theorem T_V_madeOf_11 {l : Launch} {v : gs_V} {n : Nat} {post : Int32 → gs_S → Prop} {σ : gs_S} {x2 : Int32} {x3 : Int32} {x4 : Int32} {x5 : Int32} {x6 : Int32} (h : ((x2 ≤ x6 → post x3 σ) ∧ (¬ x2 ≤ x6 → ¬ (σ.1 4 8) = 0 ∧ vp_in (jR x5 (σ.1 4 8)) 256 ∧ ¬ (σ.1 4 6) = 0 ∧ G_V_madeOf_11 l v n post σ x2 (x3 + ((σ.1 5 ((jR x5 (σ.1 4 8)).toNatClampNeg)) * x4)) (x4 * (σ.1 4 6)) (x5 / (σ.1 4 6)) (x6 + 1)))) : G_V_madeOf_11 l v n post σ x2 x3 x4 x5 x6 := by
  refine g_iload d_V_madeOf_11 5 rfl ?_
  refine g_iload_n d_V_madeOf_13 1 rfl rfl ?_
  refine g_icmp_ge (tgt := 71) d_V_madeOf_14 rfl (fun hc => ?_) (fun hc => ?_)
  · have h := h.1 hc
    refine g_iload_n d_V_madeOf_71 2 rfl rfl ?_
    exact g_iret d_V_madeOf_72 rfl h
  · have h := h.2 hc
    refine g_iload_n d_V_madeOf_17 2 rfl rfl ?_
    refine g_aload_n d_V_madeOf_18 0 rfl rfl ?_
    refine g_getV (x := .ref (v.2.2 4)) d_V_madeOf_19 fl_V_26 (by decide) rfl rfl rfl ?_
    refine g_getV (x := .ref (v.2.2 5)) d_V_madeOf_22 fl_V_76 (by decide) rfl rfl rfl ?_
    refine g_iload d_V_madeOf_25 4 rfl ?_
    refine g_aload_n d_V_madeOf_27 0 rfl rfl ?_
    refine g_getV (x := .ref (v.2.2 4)) d_V_madeOf_28 fl_V_26 (by decide) rfl rfl rfl ?_
    refine g_getV (x := .int (σ.1 4 8)) d_V_madeOf_31 fl_V_79 (by decide) rfl rfl rfl ?_
    refine g_irem d_V_madeOf_34 h.1 ?_
    have h := h.2
    have hi1 := h.1
    have h := h.2
    refine g_iald (x := σ.1 5 ((jR x5 (σ.1 4 8)).toNatClampNeg)) d_V_madeOf_35 (by decide) rfl hi1 rfl ?_
    refine g_iload d_V_madeOf_36 3 rfl ?_
    refine g_imul d_V_madeOf_38 ?_
    refine g_iadd d_V_madeOf_39 ?_
    refine g_istore_n (L' := [(3, .int (x3 + ((σ.1 5 ((jR x5 (σ.1 4 8)).toNatClampNeg)) * x4))), (0, .ref (v.2.2 17)), (2, .int x2), (4, .int x4), (5, .int x5), (6, .int x6)]) d_V_madeOf_40 rfl (by decide) rfl ?_
    refine g_iload d_V_madeOf_41 3 rfl ?_
    refine g_aload_n d_V_madeOf_43 1 rfl rfl ?_
    refine g_getV (x := .ref (v.2.2 4)) d_V_madeOf_44 fl_V_26 (by decide) rfl rfl rfl ?_
    refine g_getV (x := .int (σ.1 4 6)) d_V_madeOf_47 fl_V_37 (by decide) rfl rfl rfl ?_
    refine g_imul d_V_madeOf_50 ?_
    refine g_istore (L' := [(4, .int (x4 * (σ.1 4 6))), (3, .int (x3 + ((σ.1 5 ((jR x5 (σ.1 4 8)).toNatClampNeg)) * x4))), (0, .ref (v.2.2 17)), (2, .int x2), (5, .int x5), (6, .int x6)]) d_V_madeOf_51 (by decide) rfl ?_
    refine g_iload d_V_madeOf_53 4 rfl ?_
    refine g_aload_n d_V_madeOf_55 2 rfl rfl ?_
    refine g_getV (x := .ref (v.2.2 4)) d_V_madeOf_56 fl_V_26 (by decide) rfl rfl rfl ?_
    refine g_getV (x := .int (σ.1 4 6)) d_V_madeOf_59 fl_V_37 (by decide) rfl rfl rfl ?_
    refine g_idiv d_V_madeOf_62 h.1 ?_
    have h := h.2
    refine g_istore (L' := [(5, .int (x5 / (σ.1 4 6))), (4, .int (x4 * (σ.1 4 6))), (3, .int (x3 + ((σ.1 5 ((jR x5 (σ.1 4 8)).toNatClampNeg)) * x4))), (0, .ref (v.2.2 17)), (2, .int x2), (6, .int x6)]) d_V_madeOf_63 (by decide) rfl ?_
    refine g_iinc (L' := [(6, .int (x6 + 1)), (5, .int (x5 / (σ.1 4 6))), (4, .int (x4 * (σ.1 4 6))), (3, .int (x3 + ((σ.1 5 ((jR x5 (σ.1 4 8)).toNatClampNeg)) * x4))), (0, .ref (v.2.2 17)), (2, .int x2)]) d_V_madeOf_65 5 rfl (by rfl) (by decide) rfl ?_
    refine g_goto (tgt := 11) d_V_madeOf_68 rfl ?_
    exact g_sub [4, 5, 3, 2, 1, 0] rfl h
theorem E_V_madeOf {l : Launch} {v : gs_V} {n : Nat} {post : Int32 → gs_S → Prop} {σ : gs_S} {x1 : Int32} {x2 : Int32} (h : G_V_madeOf_0 l v n post σ x1 x2) : gM l v lyC 42 me_V_madeOf (n + 1) [.ref (v.2.2 17), .int x1, .int x2] σ (qI v lyC 42 post) := gM_of (by decide +kernel) (Nat.le_of_ble_eq_true rfl) h
/-! LineRules$Inverse.place -/
theorem d_V_place_0 : decode me_V_place.2.1 0 = .ok (.aload_n 0, 1) := by decide +kernel
theorem d_V_place_1 : decode me_V_place.2.1 1 = .ok (.invokevirtual 34, 3) := by decide +kernel
theorem d_V_place_4 : decode me_V_place.2.1 4 = .ok (.aload_n 0, 1) := by decide +kernel
theorem d_V_place_5 : decode me_V_place.2.1 5 = .ok (.getfield 23, 3) := by decide +kernel
theorem d_V_place_8 : decode me_V_place.2.1 8 = .ok (.ireturn, 1) := by decide +kernel
abbrev G_V_place_0 (l : Launch) (v : gs_V) (n : Nat) (post : Int32 → gs_S → Prop) (σ : gs_S) : Prop := gG l v lyC 42 me_V_place n (qI v lyC 42 post) 0 [(0, .ref (v.2.2 17))] [] σ
set_option maxRecDepth 20000 in
set_option maxHeartbeats 1000000 in
theorem T_V_place_0 {l : Launch} {v : gs_V} {n : Nat} {post : Int32 → gs_S → Prop} {σ : gs_S} (h : gM l v lyC 42 me_V_find n [.ref (v.2.2 17)] σ (qV v lyC 42 (fun σ1 => post (σ1.1 17 5) σ1))) : G_V_place_0 l v n post σ := by
  refine g_aload_n d_V_place_0 0 rfl rfl ?_
  refine g_callVv (av := []) (rest := []) d_V_place_1 Y_V_find lk_V_34 (by decide) rfl rfl I_V_find rfl (Nat.le_of_ble_eq_true rfl) rfl h (fun σ1 h => ?_)
  refine g_aload_n d_V_place_4 0 rfl rfl ?_
  refine g_getV (x := .int (σ1.1 17 5)) d_V_place_5 fl_V_23 (by decide) rfl rfl rfl ?_
  exact g_iret d_V_place_8 rfl h
theorem E_V_place {l : Launch} {v : gs_V} {n : Nat} {post : Int32 → gs_S → Prop} {σ : gs_S} (h : G_V_place_0 l v n post σ) : gM l v lyC 42 me_V_place (n + 1) [.ref (v.2.2 17)] σ (qI v lyC 42 post) := gM_of (by decide +kernel) (Nat.le_of_ble_eq_true rfl) h
/-! LineRules$Inverse.placesTold -/
theorem d_V_placesTold_0 : decode me_V_placesTold.2.1 0 = .ok (.aload_n 0, 1) := by decide +kernel
theorem d_V_placesTold_1 : decode me_V_placesTold.2.1 1 = .ok (.getfield 9, 3) := by decide +kernel
theorem d_V_placesTold_4 : decode me_V_placesTold.2.1 4 = .ok (.iconst (-1), 1) := by decide +kernel
theorem d_V_placesTold_5 : decode me_V_placesTold.2.1 5 = .ok (.invokestatic 63, 3) := by decide +kernel
theorem d_V_placesTold_8 : decode me_V_placesTold.2.1 8 = .ok (.iload_n 1, 1) := by decide +kernel
theorem d_V_placesTold_9 : decode me_V_placesTold.2.1 9 = .ok (.aload_n 0, 1) := by decide +kernel
theorem d_V_placesTold_10 : decode me_V_placesTold.2.1 10 = .ok (.getfield 26, 3) := by decide +kernel
theorem d_V_placesTold_13 : decode me_V_placesTold.2.1 13 = .ok (.getfield 46, 3) := by decide +kernel
theorem d_V_placesTold_16 : decode me_V_placesTold.2.1 16 = .ok (.iadd, 1) := by decide +kernel
theorem d_V_placesTold_17 : decode me_V_placesTold.2.1 17 = .ok (.iconst 1, 1) := by decide +kernel
theorem d_V_placesTold_18 : decode me_V_placesTold.2.1 18 = .ok (.isub, 1) := by decide +kernel
theorem d_V_placesTold_19 : decode me_V_placesTold.2.1 19 = .ok (.istore_n 2, 1) := by decide +kernel
theorem d_V_placesTold_20 : decode me_V_placesTold.2.1 20 = .ok (.aload_n 0, 1) := by decide +kernel
theorem d_V_placesTold_21 : decode me_V_placesTold.2.1 21 = .ok (.getfield 26, 3) := by decide +kernel
theorem d_V_placesTold_24 : decode me_V_placesTold.2.1 24 = .ok (.getfield 37, 3) := by decide +kernel
theorem d_V_placesTold_27 : decode me_V_placesTold.2.1 27 = .ok (.iload_n 2, 1) := by decide +kernel
theorem d_V_placesTold_28 : decode me_V_placesTold.2.1 28 = .ok (.invokestatic 42, 3) := by decide +kernel
theorem d_V_placesTold_31 : decode me_V_placesTold.2.1 31 = .ok (.istore_n 3, 1) := by decide +kernel
theorem d_V_placesTold_32 : decode me_V_placesTold.2.1 32 = .ok (.iconst 1, 1) := by decide +kernel
theorem d_V_placesTold_33 : decode me_V_placesTold.2.1 33 = .ok (.iload_n 2, 1) := by decide +kernel
theorem d_V_placesTold_34 : decode me_V_placesTold.2.1 34 = .ok (.ishl, 1) := by decide +kernel
theorem d_V_placesTold_35 : decode me_V_placesTold.2.1 35 = .ok (.iconst 1, 1) := by decide +kernel
theorem d_V_placesTold_36 : decode me_V_placesTold.2.1 36 = .ok (.isub, 1) := by decide +kernel
theorem d_V_placesTold_37 : decode me_V_placesTold.2.1 37 = .ok (.istore 4, 2) := by decide +kernel
theorem d_V_placesTold_39 : decode me_V_placesTold.2.1 39 = .ok (.iconst 0, 1) := by decide +kernel
theorem d_V_placesTold_40 : decode me_V_placesTold.2.1 40 = .ok (.istore 5, 2) := by decide +kernel
theorem d_V_placesTold_42 : decode me_V_placesTold.2.1 42 = .ok (.iload 5, 2) := by decide +kernel
theorem d_V_placesTold_44 : decode me_V_placesTold.2.1 44 = .ok (.iload_n 3, 1) := by decide +kernel
theorem d_V_placesTold_45 : decode me_V_placesTold.2.1 45 = .ok (.if_icmp .ge 65, 3) := by decide +kernel
theorem d_V_placesTold_48 : decode me_V_placesTold.2.1 48 = .ok (.iload 4, 2) := by decide +kernel
theorem d_V_placesTold_50 : decode me_V_placesTold.2.1 50 = .ok (.ifCond .eq 60, 3) := by decide +kernel
theorem d_V_placesTold_53 : decode me_V_placesTold.2.1 53 = .ok (.aload_n 0, 1) := by decide +kernel
theorem d_V_placesTold_54 : decode me_V_placesTold.2.1 54 = .ok (.iload 5, 2) := by decide +kernel
theorem d_V_placesTold_56 : decode me_V_placesTold.2.1 56 = .ok (.iload_n 1, 1) := by decide +kernel
theorem d_V_placesTold_57 : decode me_V_placesTold.2.1 57 = .ok (.invokevirtual 69, 3) := by decide +kernel
theorem d_V_placesTold_60 : decode me_V_placesTold.2.1 60 = .ok (.istore 6, 2) := by decide +kernel
theorem d_V_placesTold_62 : decode me_V_placesTold.2.1 62 = .ok (.aload_n 0, 1) := by decide +kernel
theorem d_V_placesTold_63 : decode me_V_placesTold.2.1 63 = .ok (.getfield 9, 3) := by decide +kernel
theorem d_V_placesTold_66 : decode me_V_placesTold.2.1 66 = .ok (.iload 6, 2) := by decide +kernel
theorem d_V_placesTold_68 : decode me_V_placesTold.2.1 68 = .ok (.iaload, 1) := by decide +kernel
theorem d_V_placesTold_69 : decode me_V_placesTold.2.1 69 = .ok (.iconst (-1), 1) := by decide +kernel
theorem d_V_placesTold_70 : decode me_V_placesTold.2.1 70 = .ok (.if_icmp .ne 15, 3) := by decide +kernel
theorem d_V_placesTold_73 : decode me_V_placesTold.2.1 73 = .ok (.aload_n 0, 1) := by decide +kernel
theorem d_V_placesTold_74 : decode me_V_placesTold.2.1 74 = .ok (.getfield 9, 3) := by decide +kernel
theorem d_V_placesTold_77 : decode me_V_placesTold.2.1 77 = .ok (.iload 6, 2) := by decide +kernel
theorem d_V_placesTold_79 : decode me_V_placesTold.2.1 79 = .ok (.iload 5, 2) := by decide +kernel
theorem d_V_placesTold_81 : decode me_V_placesTold.2.1 81 = .ok (.iastore, 1) := by decide +kernel
theorem d_V_placesTold_82 : decode me_V_placesTold.2.1 82 = .ok (.goto 22, 3) := by decide +kernel
theorem d_V_placesTold_85 : decode me_V_placesTold.2.1 85 = .ok (.iload 4, 2) := by decide +kernel
theorem d_V_placesTold_87 : decode me_V_placesTold.2.1 87 = .ok (.aload_n 0, 1) := by decide +kernel
theorem d_V_placesTold_88 : decode me_V_placesTold.2.1 88 = .ok (.iload 5, 2) := by decide +kernel
theorem d_V_placesTold_90 : decode me_V_placesTold.2.1 90 = .ok (.aload_n 0, 1) := by decide +kernel
theorem d_V_placesTold_91 : decode me_V_placesTold.2.1 91 = .ok (.getfield 9, 3) := by decide +kernel
theorem d_V_placesTold_94 : decode me_V_placesTold.2.1 94 = .ok (.iload 6, 2) := by decide +kernel
theorem d_V_placesTold_96 : decode me_V_placesTold.2.1 96 = .ok (.iaload, 1) := by decide +kernel
theorem d_V_placesTold_97 : decode me_V_placesTold.2.1 97 = .ok (.iload_n 2, 1) := by decide +kernel
theorem d_V_placesTold_98 : decode me_V_placesTold.2.1 98 = .ok (.invokevirtual 72, 3) := by decide +kernel
theorem d_V_placesTold_101 : decode me_V_placesTold.2.1 101 = .ok (.iand, 1) := by decide +kernel
theorem d_V_placesTold_102 : decode me_V_placesTold.2.1 102 = .ok (.istore 4, 2) := by decide +kernel
theorem d_V_placesTold_104 : decode me_V_placesTold.2.1 104 = .ok (.iinc 5 1, 3) := by decide +kernel
theorem d_V_placesTold_107 : decode me_V_placesTold.2.1 107 = .ok (.goto (-65), 3) := by decide +kernel
theorem d_V_placesTold_110 : decode me_V_placesTold.2.1 110 = .ok (.iload 4, 2) := by decide +kernel
theorem d_V_placesTold_112 : decode me_V_placesTold.2.1 112 = .ok (.ireturn, 1) := by decide +kernel
abbrev G_V_placesTold_0 (l : Launch) (v : gs_V) (n : Nat) (post : Int32 → gs_S → Prop) (σ : gs_S) (x1 : Int32) : Prop := gG l v lyC 42 me_V_placesTold n (qI v lyC 42 post) 0 [(0, .ref (v.2.2 17)), (1, .int x1)] [] σ
abbrev G_V_placesTold_42 (l : Launch) (v : gs_V) (n : Nat) (post : Int32 → gs_S → Prop) (σ : gs_S) (x1 : Int32) (x2 : Int32) (x3 : Int32) (x4 : Int32) (x5 : Int32) : Prop := gG l v lyC 42 me_V_placesTold n (qI v lyC 42 post) 42 [(0, .ref (v.2.2 17)), (1, .int x1), (2, .int x2), (3, .int x3), (4, .int x4), (5, .int x5)] [] σ
abbrev G_V_placesTold_104 (l : Launch) (v : gs_V) (n : Nat) (post : Int32 → gs_S → Prop) (σ : gs_S) (x1 : Int32) (x2 : Int32) (x3 : Int32) (x4 : Int32) (x5 : Int32) : Prop := gG l v lyC 42 me_V_placesTold n (qI v lyC 42 post) 104 [(0, .ref (v.2.2 17)), (1, .int x1), (2, .int x2), (3, .int x3), (4, .int x4), (5, .int x5)] [] σ
abbrev G_V_placesTold_110 (l : Launch) (v : gs_V) (n : Nat) (post : Int32 → gs_S → Prop) (σ : gs_S) (x4 : Int32) : Prop := gG l v lyC 42 me_V_placesTold n (qI v lyC 42 post) 110 [(4, .int x4)] [] σ
set_option maxRecDepth 20000 in
set_option maxHeartbeats 1000000 in
theorem T_V_placesTold_0 {l : Launch} {v : gs_V} {n : Nat} {post : Int32 → gs_S → Prop} {σ : gs_S} {x1 : Int32} (h : gM l v lyC 42 me_Y_fillI n [.ref (v.2.2 18), .int ((-1))] σ (qV v lyC 42 (fun σ1 => gM l v lyC 42 me_A_power n [.int (σ1.1 4 6), .int ((x1 + (σ1.1 4 7)) - 1)] σ1 (qI v lyC 42 (fun r2 σ2 => G_V_placesTold_42 l v n post σ2 x1 ((x1 + (σ1.1 4 7)) - 1) r2 ((jSI 1 ((x1 + (σ1.1 4 7)) - 1)) - 1) 0))))) : G_V_placesTold_0 l v n post σ x1 := by
  refine g_aload_n d_V_placesTold_0 0 rfl rfl ?_
  refine g_getV (x := .ref (v.2.2 18)) d_V_placesTold_1 fl_V_9 (by decide) rfl rfl rfl ?_
  refine g_iconst d_V_placesTold_4 (x := (-1)) (by decide) ?_
  refine g_callSv (av := [.ref (v.2.2 18), .int ((-1))]) (rest := []) d_V_placesTold_5 Y_Y_fillI lk_V_63 I_Y_fillI rfl (Nat.le_of_ble_eq_true rfl) rfl h (fun σ1 h => ?_)
  refine g_iload_n d_V_placesTold_8 1 rfl rfl ?_
  refine g_aload_n d_V_placesTold_9 0 rfl rfl ?_
  refine g_getV (x := .ref (v.2.2 4)) d_V_placesTold_10 fl_V_26 (by decide) rfl rfl rfl ?_
  refine g_getV (x := .int (σ1.1 4 7)) d_V_placesTold_13 fl_V_46 (by decide) rfl rfl rfl ?_
  refine g_iadd d_V_placesTold_16 ?_
  refine g_iconst d_V_placesTold_17 (x := 1) (by decide) ?_
  refine g_isub d_V_placesTold_18 ?_
  refine g_istore_n (L' := [(2, .int ((x1 + (σ1.1 4 7)) - 1)), (0, .ref (v.2.2 17)), (1, .int x1)]) d_V_placesTold_19 rfl (by decide) rfl ?_
  refine g_aload_n d_V_placesTold_20 1 rfl rfl ?_
  refine g_getV (x := .ref (v.2.2 4)) d_V_placesTold_21 fl_V_26 (by decide) rfl rfl rfl ?_
  refine g_getV (x := .int (σ1.1 4 6)) d_V_placesTold_24 fl_V_37 (by decide) rfl rfl rfl ?_
  refine g_iload_n d_V_placesTold_27 0 rfl rfl ?_
  refine g_callSNi (av := [.int (σ1.1 4 6), .int ((x1 + (σ1.1 4 7)) - 1)]) (rest := []) d_V_placesTold_28 Y_A_power lk_V_42 I_A_power rfl (Nat.le_of_ble_eq_true rfl) rfl h (fun r2 σ2 h => ?_)
  refine g_istore_n (L' := [(3, .int r2), (2, .int ((x1 + (σ1.1 4 7)) - 1)), (0, .ref (v.2.2 17)), (1, .int x1)]) d_V_placesTold_31 rfl (by decide) rfl ?_
  refine g_iconst d_V_placesTold_32 (x := 1) (by decide) ?_
  refine g_iload_n d_V_placesTold_33 1 rfl rfl ?_
  refine g_ishl d_V_placesTold_34 ?_
  refine g_iconst d_V_placesTold_35 (x := 1) (by decide) ?_
  refine g_isub d_V_placesTold_36 ?_
  refine g_istore (L' := [(4, .int ((jSI 1 ((x1 + (σ1.1 4 7)) - 1)) - 1)), (3, .int r2), (2, .int ((x1 + (σ1.1 4 7)) - 1)), (0, .ref (v.2.2 17)), (1, .int x1)]) d_V_placesTold_37 (by decide) rfl ?_
  refine g_iconst d_V_placesTold_39 (x := 0) (by decide) ?_
  refine g_istore (L' := [(5, .int 0), (4, .int ((jSI 1 ((x1 + (σ1.1 4 7)) - 1)) - 1)), (3, .int r2), (2, .int ((x1 + (σ1.1 4 7)) - 1)), (0, .ref (v.2.2 17)), (1, .int x1)]) d_V_placesTold_40 (by decide) rfl ?_
  exact g_sub [4, 5, 3, 2, 1, 0] rfl h
set_option maxRecDepth 20000 in
set_option maxHeartbeats 1000000 in
theorem T_V_placesTold_42 {l : Launch} {v : gs_V} {n : Nat} {post : Int32 → gs_S → Prop} {σ : gs_S} {x1 : Int32} {x2 : Int32} {x3 : Int32} {x4 : Int32} {x5 : Int32} (h : ((x3 ≤ x5 → G_V_placesTold_110 l v n post σ x4) ∧ (¬ x3 ≤ x5 → ((x4 = 0 → G_V_placesTold_110 l v n post σ x4) ∧ (¬ x4 = 0 → gM l v lyC 42 me_V_madeOf n [.ref (v.2.2 17), .int x5, .int x1] σ (qI v lyC 42 (fun r1 σ1 => vp_in r1 1024 ∧ ((¬ (σ1.1 18 r1.toNatClampNeg) = ((-1)) → vp_in r1 1024 ∧ gM l v lyC 42 me_V_samePlaces n [.ref (v.2.2 17), .int x5, .int (σ1.1 18 r1.toNatClampNeg), .int x2] σ1 (qI v lyC 42 (fun r4 σ4 => G_V_placesTold_104 l v n post σ4 x1 x2 x3 (x4 &&& r4) x5))) ∧ ((σ1.1 18 r1.toNatClampNeg) = ((-1)) → vp_in r1 1024 ∧ G_V_placesTold_104 l v n post (gs_pI σ1 18 r1.toNatClampNeg x5) x1 x2 x3 x4 x5))))))))) : G_V_placesTold_42 l v n post σ x1 x2 x3 x4 x5 := by
  refine g_iload d_V_placesTold_42 5 rfl ?_
  refine g_iload_n d_V_placesTold_44 3 rfl rfl ?_
  refine g_icmp_ge (tgt := 110) d_V_placesTold_45 rfl (fun hc => ?_) (fun hc => ?_)
  · have h := h.1 hc
    exact g_sub [4] rfl h
  · have h := h.2 hc
    refine g_iload d_V_placesTold_48 4 rfl ?_
    refine g_if_eq (tgt := 110) d_V_placesTold_50 rfl (fun hc => ?_) (fun hc => ?_)
    · have h := h.1 hc
      exact g_sub [4] rfl h
    · have h := h.2 hc
      refine g_aload_n d_V_placesTold_53 0 rfl rfl ?_
      refine g_iload d_V_placesTold_54 5 rfl ?_
      refine g_iload_n d_V_placesTold_56 1 rfl rfl ?_
      refine g_callVi (av := [.int x5, .int x1]) (rest := []) d_V_placesTold_57 Y_V_madeOf lk_V_69 (by decide) rfl rfl I_V_madeOf rfl (Nat.le_of_ble_eq_true rfl) rfl h (fun r1 σ1 h => ?_)
      refine g_istore (L' := [(6, .int r1), (0, .ref (v.2.2 17)), (1, .int x1), (2, .int x2), (3, .int x3), (4, .int x4), (5, .int x5)]) d_V_placesTold_60 (by decide) rfl ?_
      refine g_aload_n d_V_placesTold_62 1 rfl rfl ?_
      refine g_getV (x := .ref (v.2.2 18)) d_V_placesTold_63 fl_V_9 (by decide) rfl rfl rfl ?_
      refine g_iload d_V_placesTold_66 0 rfl ?_
      have hi2 := h.1
      have h := h.2
      refine g_iald (x := σ1.1 18 r1.toNatClampNeg) d_V_placesTold_68 (by decide) rfl hi2 rfl ?_
      refine g_iconst d_V_placesTold_69 (x := (-1)) (by decide) ?_
      refine g_icmp_ne (tgt := 85) d_V_placesTold_70 rfl (fun hc => ?_) (fun hc => ?_)
      · have h := h.1 hc
        refine g_iload d_V_placesTold_85 5 rfl ?_
        refine g_aload_n d_V_placesTold_87 1 rfl rfl ?_
        refine g_iload d_V_placesTold_88 6 rfl ?_
        refine g_aload_n d_V_placesTold_90 1 rfl rfl ?_
        refine g_getV (x := .ref (v.2.2 18)) d_V_placesTold_91 fl_V_9 (by decide) rfl rfl rfl ?_
        refine g_iload d_V_placesTold_94 0 rfl ?_
        have hi3 := h.1
        have h := h.2
        refine g_iald (x := σ1.1 18 r1.toNatClampNeg) d_V_placesTold_96 (by decide) rfl hi3 rfl ?_
        refine g_iload_n d_V_placesTold_97 3 rfl rfl ?_
        refine g_callVi (av := [.int x5, .int (σ1.1 18 r1.toNatClampNeg), .int x2]) (rest := [.int x4]) d_V_placesTold_98 Y_V_samePlaces lk_V_72 (by decide) rfl rfl I_V_samePlaces rfl (Nat.le_of_ble_eq_true rfl) rfl h (fun r4 σ4 h => ?_)
        refine g_iand d_V_placesTold_101 ?_
        refine g_istore (L' := [(4, .int (x4 &&& r4)), (6, .int r1), (0, .ref (v.2.2 17)), (1, .int x1), (2, .int x2), (3, .int x3), (5, .int x5)]) d_V_placesTold_102 (by decide) rfl ?_
        exact g_sub [2, 3, 4, 5, 0, 6] rfl h
      · have h := h.2 hc
        refine g_aload_n d_V_placesTold_73 1 rfl rfl ?_
        refine g_getV (x := .ref (v.2.2 18)) d_V_placesTold_74 fl_V_9 (by decide) rfl rfl rfl ?_
        refine g_iload d_V_placesTold_77 0 rfl ?_
        refine g_iload d_V_placesTold_79 6 rfl ?_
        have hi5 := h.1
        have h := h.2
        refine g_iast d_V_placesTold_81 (by decide) rfl hi5 ?_
        refine g_goto (tgt := 104) d_V_placesTold_82 rfl ?_
        exact g_sub [1, 2, 3, 4, 5, 6] rfl h
set_option maxRecDepth 20000 in
set_option maxHeartbeats 1000000 in
theorem T_V_placesTold_104 {l : Launch} {v : gs_V} {n : Nat} {post : Int32 → gs_S → Prop} {σ : gs_S} {x1 : Int32} {x2 : Int32} {x3 : Int32} {x4 : Int32} {x5 : Int32} (h : G_V_placesTold_42 l v n post σ x1 x2 x3 x4 (x5 + 1)) : G_V_placesTold_104 l v n post σ x1 x2 x3 x4 x5 := by
  refine g_iinc (L' := [(5, .int (x5 + 1)), (0, .ref (v.2.2 17)), (1, .int x1), (2, .int x2), (3, .int x3), (4, .int x4)]) d_V_placesTold_104 5 rfl (by rfl) (by decide) rfl ?_
  refine g_goto (tgt := 42) d_V_placesTold_107 rfl ?_
  exact g_sub [1, 2, 3, 4, 5, 0] rfl h
set_option maxRecDepth 20000 in
set_option maxHeartbeats 1000000 in
theorem T_V_placesTold_110 {l : Launch} {v : gs_V} {n : Nat} {post : Int32 → gs_S → Prop} {σ : gs_S} {x4 : Int32} (h : post x4 σ) : G_V_placesTold_110 l v n post σ x4 := by
  refine g_iload d_V_placesTold_110 0 rfl ?_
  exact g_iret d_V_placesTold_112 rfl h
theorem E_V_placesTold {l : Launch} {v : gs_V} {n : Nat} {post : Int32 → gs_S → Prop} {σ : gs_S} {x1 : Int32} (h : G_V_placesTold_0 l v n post σ x1) : gM l v lyC 42 me_V_placesTold (n + 1) [.ref (v.2.2 17), .int x1] σ (qI v lyC 42 post) := gM_of (by decide +kernel) (Nat.le_of_ble_eq_true rfl) h
/-! LineRules$Inverse.samePlaces -/
theorem d_V_samePlaces_0 : decode me_V_samePlaces.2.1 0 = .ok (.iconst 0, 1) := by decide +kernel
theorem d_V_samePlaces_1 : decode me_V_samePlaces.2.1 1 = .ok (.istore 4, 2) := by decide +kernel
theorem d_V_samePlaces_3 : decode me_V_samePlaces.2.1 3 = .ok (.iload_n 1, 1) := by decide +kernel
theorem d_V_samePlaces_4 : decode me_V_samePlaces.2.1 4 = .ok (.istore 5, 2) := by decide +kernel
theorem d_V_samePlaces_6 : decode me_V_samePlaces.2.1 6 = .ok (.iload_n 2, 1) := by decide +kernel
theorem d_V_samePlaces_7 : decode me_V_samePlaces.2.1 7 = .ok (.istore 6, 2) := by decide +kernel
theorem d_V_samePlaces_9 : decode me_V_samePlaces.2.1 9 = .ok (.iload_n 3, 1) := by decide +kernel
theorem d_V_samePlaces_10 : decode me_V_samePlaces.2.1 10 = .ok (.iconst 1, 1) := by decide +kernel
theorem d_V_samePlaces_11 : decode me_V_samePlaces.2.1 11 = .ok (.isub, 1) := by decide +kernel
theorem d_V_samePlaces_12 : decode me_V_samePlaces.2.1 12 = .ok (.istore 7, 2) := by decide +kernel
theorem d_V_samePlaces_14 : decode me_V_samePlaces.2.1 14 = .ok (.iload 7, 2) := by decide +kernel
theorem d_V_samePlaces_16 : decode me_V_samePlaces.2.1 16 = .ok (.ifCond .lt 65, 3) := by decide +kernel
theorem d_V_samePlaces_19 : decode me_V_samePlaces.2.1 19 = .ok (.iload 5, 2) := by decide +kernel
theorem d_V_samePlaces_21 : decode me_V_samePlaces.2.1 21 = .ok (.aload_n 0, 1) := by decide +kernel
theorem d_V_samePlaces_22 : decode me_V_samePlaces.2.1 22 = .ok (.getfield 26, 3) := by decide +kernel
theorem d_V_samePlaces_25 : decode me_V_samePlaces.2.1 25 = .ok (.getfield 37, 3) := by decide +kernel
theorem d_V_samePlaces_28 : decode me_V_samePlaces.2.1 28 = .ok (.irem, 1) := by decide +kernel
theorem d_V_samePlaces_29 : decode me_V_samePlaces.2.1 29 = .ok (.iload 6, 2) := by decide +kernel
theorem d_V_samePlaces_31 : decode me_V_samePlaces.2.1 31 = .ok (.aload_n 0, 1) := by decide +kernel
theorem d_V_samePlaces_32 : decode me_V_samePlaces.2.1 32 = .ok (.getfield 26, 3) := by decide +kernel
theorem d_V_samePlaces_35 : decode me_V_samePlaces.2.1 35 = .ok (.getfield 37, 3) := by decide +kernel
theorem d_V_samePlaces_38 : decode me_V_samePlaces.2.1 38 = .ok (.irem, 1) := by decide +kernel
theorem d_V_samePlaces_39 : decode me_V_samePlaces.2.1 39 = .ok (.if_icmp .ne 12, 3) := by decide +kernel
theorem d_V_samePlaces_42 : decode me_V_samePlaces.2.1 42 = .ok (.iload 4, 2) := by decide +kernel
theorem d_V_samePlaces_44 : decode me_V_samePlaces.2.1 44 = .ok (.iconst 1, 1) := by decide +kernel
theorem d_V_samePlaces_45 : decode me_V_samePlaces.2.1 45 = .ok (.iload 7, 2) := by decide +kernel
theorem d_V_samePlaces_47 : decode me_V_samePlaces.2.1 47 = .ok (.ishl, 1) := by decide +kernel
theorem d_V_samePlaces_48 : decode me_V_samePlaces.2.1 48 = .ok (.ior, 1) := by decide +kernel
theorem d_V_samePlaces_49 : decode me_V_samePlaces.2.1 49 = .ok (.istore 4, 2) := by decide +kernel
theorem d_V_samePlaces_51 : decode me_V_samePlaces.2.1 51 = .ok (.iload 5, 2) := by decide +kernel
theorem d_V_samePlaces_53 : decode me_V_samePlaces.2.1 53 = .ok (.aload_n 0, 1) := by decide +kernel
theorem d_V_samePlaces_54 : decode me_V_samePlaces.2.1 54 = .ok (.getfield 26, 3) := by decide +kernel
theorem d_V_samePlaces_57 : decode me_V_samePlaces.2.1 57 = .ok (.getfield 37, 3) := by decide +kernel
theorem d_V_samePlaces_60 : decode me_V_samePlaces.2.1 60 = .ok (.idiv, 1) := by decide +kernel
theorem d_V_samePlaces_61 : decode me_V_samePlaces.2.1 61 = .ok (.istore 5, 2) := by decide +kernel
theorem d_V_samePlaces_63 : decode me_V_samePlaces.2.1 63 = .ok (.iload 6, 2) := by decide +kernel
theorem d_V_samePlaces_65 : decode me_V_samePlaces.2.1 65 = .ok (.aload_n 0, 1) := by decide +kernel
theorem d_V_samePlaces_66 : decode me_V_samePlaces.2.1 66 = .ok (.getfield 26, 3) := by decide +kernel
theorem d_V_samePlaces_69 : decode me_V_samePlaces.2.1 69 = .ok (.getfield 37, 3) := by decide +kernel
theorem d_V_samePlaces_72 : decode me_V_samePlaces.2.1 72 = .ok (.idiv, 1) := by decide +kernel
theorem d_V_samePlaces_73 : decode me_V_samePlaces.2.1 73 = .ok (.istore 6, 2) := by decide +kernel
theorem d_V_samePlaces_75 : decode me_V_samePlaces.2.1 75 = .ok (.iinc 7 (-1), 3) := by decide +kernel
theorem d_V_samePlaces_78 : decode me_V_samePlaces.2.1 78 = .ok (.goto (-64), 3) := by decide +kernel
theorem d_V_samePlaces_81 : decode me_V_samePlaces.2.1 81 = .ok (.iload 4, 2) := by decide +kernel
theorem d_V_samePlaces_83 : decode me_V_samePlaces.2.1 83 = .ok (.ireturn, 1) := by decide +kernel
abbrev G_V_samePlaces_0 (l : Launch) (v : gs_V) (n : Nat) (post : Int32 → gs_S → Prop) (σ : gs_S) (x1 : Int32) (x2 : Int32) (x3 : Int32) : Prop := gG l v lyC 42 me_V_samePlaces n (qI v lyC 42 post) 0 [(0, .ref (v.2.2 17)), (1, .int x1), (2, .int x2), (3, .int x3)] [] σ
abbrev G_V_samePlaces_14 (l : Launch) (v : gs_V) (n : Nat) (post : Int32 → gs_S → Prop) (σ : gs_S) (x4 : Int32) (x5 : Int32) (x6 : Int32) (x7 : Int32) : Prop := gG l v lyC 42 me_V_samePlaces n (qI v lyC 42 post) 14 [(0, .ref (v.2.2 17)), (4, .int x4), (5, .int x5), (6, .int x6), (7, .int x7)] [] σ
abbrev G_V_samePlaces_51 (l : Launch) (v : gs_V) (n : Nat) (post : Int32 → gs_S → Prop) (σ : gs_S) (x4 : Int32) (x5 : Int32) (x6 : Int32) (x7 : Int32) : Prop := gG l v lyC 42 me_V_samePlaces n (qI v lyC 42 post) 51 [(0, .ref (v.2.2 17)), (4, .int x4), (5, .int x5), (6, .int x6), (7, .int x7)] [] σ
set_option maxRecDepth 20000 in
set_option maxHeartbeats 1000000 in
theorem T_V_samePlaces_0 {l : Launch} {v : gs_V} {n : Nat} {post : Int32 → gs_S → Prop} {σ : gs_S} {x1 : Int32} {x2 : Int32} {x3 : Int32} (h : G_V_samePlaces_14 l v n post σ 0 x1 x2 (x3 - 1)) : G_V_samePlaces_0 l v n post σ x1 x2 x3 := by
  refine g_iconst d_V_samePlaces_0 (x := 0) (by decide) ?_
  refine g_istore (L' := [(4, .int 0), (0, .ref (v.2.2 17)), (1, .int x1), (2, .int x2), (3, .int x3)]) d_V_samePlaces_1 (by decide) rfl ?_
  refine g_iload_n d_V_samePlaces_3 2 rfl rfl ?_
  refine g_istore (L' := [(5, .int x1), (4, .int 0), (0, .ref (v.2.2 17)), (1, .int x1), (2, .int x2), (3, .int x3)]) d_V_samePlaces_4 (by decide) rfl ?_
  refine g_iload_n d_V_samePlaces_6 4 rfl rfl ?_
  refine g_istore (L' := [(6, .int x2), (5, .int x1), (4, .int 0), (0, .ref (v.2.2 17)), (1, .int x1), (2, .int x2), (3, .int x3)]) d_V_samePlaces_7 (by decide) rfl ?_
  refine g_iload_n d_V_samePlaces_9 6 rfl rfl ?_
  refine g_iconst d_V_samePlaces_10 (x := 1) (by decide) ?_
  refine g_isub d_V_samePlaces_11 ?_
  refine g_istore (L' := [(7, .int (x3 - 1)), (6, .int x2), (5, .int x1), (4, .int 0), (0, .ref (v.2.2 17)), (1, .int x1), (2, .int x2), (3, .int x3)]) d_V_samePlaces_12 (by decide) rfl ?_
  exact g_sub [4, 3, 2, 1, 0] rfl h
set_option maxRecDepth 20000 in
set_option maxHeartbeats 1000000 in
theorem T_V_samePlaces_14 {l : Launch} {v : gs_V} {n : Nat} {post : Int32 → gs_S → Prop} {σ : gs_S} {x4 : Int32} {x5 : Int32} {x6 : Int32} {x7 : Int32} (h : ((x7 < 0 → post x4 σ) ∧ (¬ x7 < 0 → ¬ (σ.1 4 6) = 0 ∧ ¬ (σ.1 4 6) = 0 ∧ ((¬ (jR x5 (σ.1 4 6)) = (jR x6 (σ.1 4 6)) → G_V_samePlaces_51 l v n post σ x4 x5 x6 x7) ∧ ((jR x5 (σ.1 4 6)) = (jR x6 (σ.1 4 6)) → G_V_samePlaces_51 l v n post σ (x4 ||| (jSI 1 x7)) x5 x6 x7))))) : G_V_samePlaces_14 l v n post σ x4 x5 x6 x7 := by
  refine g_iload d_V_samePlaces_14 4 rfl ?_
  refine g_if_lt (tgt := 81) d_V_samePlaces_16 rfl (fun hc => ?_) (fun hc => ?_)
  · have h := h.1 hc
    refine g_iload d_V_samePlaces_81 1 rfl ?_
    exact g_iret d_V_samePlaces_83 rfl h
  · have h := h.2 hc
    refine g_iload d_V_samePlaces_19 2 rfl ?_
    refine g_aload_n d_V_samePlaces_21 0 rfl rfl ?_
    refine g_getV (x := .ref (v.2.2 4)) d_V_samePlaces_22 fl_V_26 (by decide) rfl rfl rfl ?_
    refine g_getV (x := .int (σ.1 4 6)) d_V_samePlaces_25 fl_V_37 (by decide) rfl rfl rfl ?_
    refine g_irem d_V_samePlaces_28 h.1 ?_
    have h := h.2
    refine g_iload d_V_samePlaces_29 3 rfl ?_
    refine g_aload_n d_V_samePlaces_31 0 rfl rfl ?_
    refine g_getV (x := .ref (v.2.2 4)) d_V_samePlaces_32 fl_V_26 (by decide) rfl rfl rfl ?_
    refine g_getV (x := .int (σ.1 4 6)) d_V_samePlaces_35 fl_V_37 (by decide) rfl rfl rfl ?_
    refine g_irem d_V_samePlaces_38 h.1 ?_
    have h := h.2
    refine g_icmp_ne (tgt := 51) d_V_samePlaces_39 rfl (fun hc => ?_) (fun hc => ?_)
    · have h := h.1 hc
      exact h
    · have h := h.2 hc
      refine g_iload d_V_samePlaces_42 1 rfl ?_
      refine g_iconst d_V_samePlaces_44 (x := 1) (by decide) ?_
      refine g_iload d_V_samePlaces_45 4 rfl ?_
      refine g_ishl d_V_samePlaces_47 ?_
      refine g_ior d_V_samePlaces_48 ?_
      refine g_istore (L' := [(4, .int (x4 ||| (jSI 1 x7))), (0, .ref (v.2.2 17)), (5, .int x5), (6, .int x6), (7, .int x7)]) d_V_samePlaces_49 (by decide) rfl ?_
      exact g_sub [1, 0, 2, 3, 4] rfl h
set_option maxRecDepth 20000 in
set_option maxHeartbeats 1000000 in
theorem T_V_samePlaces_51 {l : Launch} {v : gs_V} {n : Nat} {post : Int32 → gs_S → Prop} {σ : gs_S} {x4 : Int32} {x5 : Int32} {x6 : Int32} {x7 : Int32} (h : ¬ (σ.1 4 6) = 0 ∧ ¬ (σ.1 4 6) = 0 ∧ G_V_samePlaces_14 l v n post σ x4 (x5 / (σ.1 4 6)) (x6 / (σ.1 4 6)) (x7 + (-1))) : G_V_samePlaces_51 l v n post σ x4 x5 x6 x7 := by
  refine g_iload d_V_samePlaces_51 2 rfl ?_
  refine g_aload_n d_V_samePlaces_53 0 rfl rfl ?_
  refine g_getV (x := .ref (v.2.2 4)) d_V_samePlaces_54 fl_V_26 (by decide) rfl rfl rfl ?_
  refine g_getV (x := .int (σ.1 4 6)) d_V_samePlaces_57 fl_V_37 (by decide) rfl rfl rfl ?_
  refine g_idiv d_V_samePlaces_60 h.1 ?_
  have h := h.2
  refine g_istore (L' := [(5, .int (x5 / (σ.1 4 6))), (0, .ref (v.2.2 17)), (4, .int x4), (6, .int x6), (7, .int x7)]) d_V_samePlaces_61 (by decide) rfl ?_
  refine g_iload d_V_samePlaces_63 3 rfl ?_
  refine g_aload_n d_V_samePlaces_65 1 rfl rfl ?_
  refine g_getV (x := .ref (v.2.2 4)) d_V_samePlaces_66 fl_V_26 (by decide) rfl rfl rfl ?_
  refine g_getV (x := .int (σ.1 4 6)) d_V_samePlaces_69 fl_V_37 (by decide) rfl rfl rfl ?_
  refine g_idiv d_V_samePlaces_72 h.1 ?_
  have h := h.2
  refine g_istore (L' := [(6, .int (x6 / (σ.1 4 6))), (5, .int (x5 / (σ.1 4 6))), (0, .ref (v.2.2 17)), (4, .int x4), (7, .int x7)]) d_V_samePlaces_73 (by decide) rfl ?_
  refine g_iinc (L' := [(7, .int (x7 + (-1))), (6, .int (x6 / (σ.1 4 6))), (5, .int (x5 / (σ.1 4 6))), (0, .ref (v.2.2 17)), (4, .int x4)]) d_V_samePlaces_75 4 rfl (by rfl) (by decide) rfl ?_
  refine g_goto (tgt := 14) d_V_samePlaces_78 rfl ?_
  exact g_sub [3, 4, 2, 1, 0] rfl h
theorem E_V_samePlaces {l : Launch} {v : gs_V} {n : Nat} {post : Int32 → gs_S → Prop} {σ : gs_S} {x1 : Int32} {x2 : Int32} {x3 : Int32} (h : G_V_samePlaces_0 l v n post σ x1 x2 x3) : gM l v lyC 42 me_V_samePlaces (n + 1) [.ref (v.2.2 17), .int x1, .int x2, .int x3] σ (qI v lyC 42 post) := gM_of (by decide +kernel) (Nat.le_of_ble_eq_true rfl) h
/-! LineRules$Inverse.takeLeast -/
theorem d_V_takeLeast_0 : decode me_V_takeLeast.2.1 0 = .ok (.iconst 0, 1) := by decide +kernel
theorem d_V_takeLeast_1 : decode me_V_takeLeast.2.1 1 = .ok (.istore_n 3, 1) := by decide +kernel
theorem d_V_takeLeast_2 : decode me_V_takeLeast.2.1 2 = .ok (.iload_n 3, 1) := by decide +kernel
theorem d_V_takeLeast_3 : decode me_V_takeLeast.2.1 3 = .ok (.iload_n 1, 1) := by decide +kernel
theorem d_V_takeLeast_4 : decode me_V_takeLeast.2.1 4 = .ok (.aload_n 0, 1) := by decide +kernel
theorem d_V_takeLeast_5 : decode me_V_takeLeast.2.1 5 = .ok (.getfield 26, 3) := by decide +kernel
theorem d_V_takeLeast_8 : decode me_V_takeLeast.2.1 8 = .ok (.getfield 46, 3) := by decide +kernel
theorem d_V_takeLeast_11 : decode me_V_takeLeast.2.1 11 = .ok (.iadd, 1) := by decide +kernel
theorem d_V_takeLeast_12 : decode me_V_takeLeast.2.1 12 = .ok (.iconst 1, 1) := by decide +kernel
theorem d_V_takeLeast_13 : decode me_V_takeLeast.2.1 13 = .ok (.isub, 1) := by decide +kernel
theorem d_V_takeLeast_14 : decode me_V_takeLeast.2.1 14 = .ok (.if_icmp .ge 28, 3) := by decide +kernel
theorem d_V_takeLeast_17 : decode me_V_takeLeast.2.1 17 = .ok (.iload_n 2, 1) := by decide +kernel
theorem d_V_takeLeast_18 : decode me_V_takeLeast.2.1 18 = .ok (.iload_n 3, 1) := by decide +kernel
theorem d_V_takeLeast_19 : decode me_V_takeLeast.2.1 19 = .ok (.ishr, 1) := by decide +kernel
theorem d_V_takeLeast_20 : decode me_V_takeLeast.2.1 20 = .ok (.iconst 1, 1) := by decide +kernel
theorem d_V_takeLeast_21 : decode me_V_takeLeast.2.1 21 = .ok (.iand, 1) := by decide +kernel
theorem d_V_takeLeast_22 : decode me_V_takeLeast.2.1 22 = .ok (.ifCond .eq 14, 3) := by decide +kernel
theorem d_V_takeLeast_25 : decode me_V_takeLeast.2.1 25 = .ok (.aload_n 0, 1) := by decide +kernel
theorem d_V_takeLeast_26 : decode me_V_takeLeast.2.1 26 = .ok (.iload_n 1, 1) := by decide +kernel
theorem d_V_takeLeast_27 : decode me_V_takeLeast.2.1 27 = .ok (.putfield 19, 3) := by decide +kernel
theorem d_V_takeLeast_30 : decode me_V_takeLeast.2.1 30 = .ok (.aload_n 0, 1) := by decide +kernel
theorem d_V_takeLeast_31 : decode me_V_takeLeast.2.1 31 = .ok (.iload_n 3, 1) := by decide +kernel
theorem d_V_takeLeast_32 : decode me_V_takeLeast.2.1 32 = .ok (.putfield 23, 3) := by decide +kernel
theorem d_V_takeLeast_35 : decode me_V_takeLeast.2.1 35 = .ok (.return_, 1) := by decide +kernel
theorem d_V_takeLeast_36 : decode me_V_takeLeast.2.1 36 = .ok (.iinc 3 1, 3) := by decide +kernel
theorem d_V_takeLeast_39 : decode me_V_takeLeast.2.1 39 = .ok (.goto (-37), 3) := by decide +kernel
theorem d_V_takeLeast_42 : decode me_V_takeLeast.2.1 42 = .ok (.return_, 1) := by decide +kernel
abbrev G_V_takeLeast_0 (l : Launch) (v : gs_V) (n : Nat) (post : gs_S → Prop) (σ : gs_S) (x1 : Int32) (x2 : Int32) : Prop := gG l v lyC 42 me_V_takeLeast n (qV v lyC 42 post) 0 [(0, .ref (v.2.2 17)), (1, .int x1), (2, .int x2)] [] σ
abbrev G_V_takeLeast_2 (l : Launch) (v : gs_V) (n : Nat) (post : gs_S → Prop) (σ : gs_S) (x1 : Int32) (x2 : Int32) (x3 : Int32) : Prop := gG l v lyC 42 me_V_takeLeast n (qV v lyC 42 post) 2 [(0, .ref (v.2.2 17)), (1, .int x1), (2, .int x2), (3, .int x3)] [] σ
set_option maxRecDepth 20000 in
set_option maxHeartbeats 1000000 in
theorem T_V_takeLeast_0 {l : Launch} {v : gs_V} {n : Nat} {post : gs_S → Prop} {σ : gs_S} {x1 : Int32} {x2 : Int32} (h : G_V_takeLeast_2 l v n post σ x1 x2 0) : G_V_takeLeast_0 l v n post σ x1 x2 := by
  refine g_iconst d_V_takeLeast_0 (x := 0) (by decide) ?_
  refine g_istore_n (L' := [(3, .int 0), (0, .ref (v.2.2 17)), (1, .int x1), (2, .int x2)]) d_V_takeLeast_1 rfl (by decide) rfl ?_
  exact g_sub [1, 2, 3, 0] rfl h
set_option maxRecDepth 20000 in
set_option maxHeartbeats 1000000 in
theorem T_V_takeLeast_2 {l : Launch} {v : gs_V} {n : Nat} {post : gs_S → Prop} {σ : gs_S} {x1 : Int32} {x2 : Int32} {x3 : Int32} (h : ((((x1 + (σ.1 4 7)) - 1) ≤ x3 → post σ) ∧ (¬ ((x1 + (σ.1 4 7)) - 1) ≤ x3 → ((((jAI x2 x3) &&& 1) = 0 → G_V_takeLeast_2 l v n post σ x1 x2 (x3 + 1)) ∧ (¬ ((jAI x2 x3) &&& 1) = 0 → post (gs_pI (gs_pI σ 17 4 x1) 17 5 x3)))))) : G_V_takeLeast_2 l v n post σ x1 x2 x3 := by
  refine g_iload_n d_V_takeLeast_2 3 rfl rfl ?_
  refine g_iload_n d_V_takeLeast_3 1 rfl rfl ?_
  refine g_aload_n d_V_takeLeast_4 0 rfl rfl ?_
  refine g_getV (x := .ref (v.2.2 4)) d_V_takeLeast_5 fl_V_26 (by decide) rfl rfl rfl ?_
  refine g_getV (x := .int (σ.1 4 7)) d_V_takeLeast_8 fl_V_46 (by decide) rfl rfl rfl ?_
  refine g_iadd d_V_takeLeast_11 ?_
  refine g_iconst d_V_takeLeast_12 (x := 1) (by decide) ?_
  refine g_isub d_V_takeLeast_13 ?_
  refine g_icmp_ge (tgt := 42) d_V_takeLeast_14 rfl (fun hc => ?_) (fun hc => ?_)
  · have h := h.1 hc
    exact g_vret d_V_takeLeast_42 rfl h
  · have h := h.2 hc
    refine g_iload_n d_V_takeLeast_17 2 rfl rfl ?_
    refine g_iload_n d_V_takeLeast_18 3 rfl rfl ?_
    refine g_ishr d_V_takeLeast_19 ?_
    refine g_iconst d_V_takeLeast_20 (x := 1) (by decide) ?_
    refine g_iand d_V_takeLeast_21 ?_
    refine g_if_eq (tgt := 36) d_V_takeLeast_22 rfl (fun hc => ?_) (fun hc => ?_)
    · have h := h.1 hc
      refine g_iinc (L' := [(3, .int (x3 + 1)), (0, .ref (v.2.2 17)), (1, .int x1), (2, .int x2)]) d_V_takeLeast_36 3 rfl (by rfl) (by decide) rfl ?_
      refine g_goto (tgt := 2) d_V_takeLeast_39 rfl ?_
      exact g_sub [1, 2, 3, 0] rfl h
    · have h := h.2 hc
      refine g_aload_n d_V_takeLeast_25 0 rfl rfl ?_
      refine g_iload_n d_V_takeLeast_26 1 rfl rfl ?_
      refine g_putI d_V_takeLeast_27 fp_V_19 (by decide) rfl rfl ⟨rfl, rfl⟩ ?_
      refine g_aload_n d_V_takeLeast_30 0 rfl rfl ?_
      refine g_iload_n d_V_takeLeast_31 3 rfl rfl ?_
      refine g_putI d_V_takeLeast_32 fp_V_23 (by decide) rfl rfl ⟨rfl, rfl⟩ ?_
      exact g_vret d_V_takeLeast_35 rfl h
theorem E_V_takeLeast {l : Launch} {v : gs_V} {n : Nat} {post : gs_S → Prop} {σ : gs_S} {x1 : Int32} {x2 : Int32} (h : G_V_takeLeast_0 l v n post σ x1 x2) : gM l v lyC 42 me_V_takeLeast (n + 1) [.ref (v.2.2 17), .int x1, .int x2] σ (qV v lyC 42 post) := gM_of (by decide +kernel) (Nat.le_of_ble_eq_true rfl) h
/-! LineRules$Inverse.width -/
theorem d_V_width_0 : decode me_V_width.2.1 0 = .ok (.aload_n 0, 1) := by decide +kernel
theorem d_V_width_1 : decode me_V_width.2.1 1 = .ok (.invokevirtual 34, 3) := by decide +kernel
theorem d_V_width_4 : decode me_V_width.2.1 4 = .ok (.aload_n 0, 1) := by decide +kernel
theorem d_V_width_5 : decode me_V_width.2.1 5 = .ok (.getfield 19, 3) := by decide +kernel
theorem d_V_width_8 : decode me_V_width.2.1 8 = .ok (.ireturn, 1) := by decide +kernel
abbrev G_V_width_0 (l : Launch) (v : gs_V) (n : Nat) (post : Int32 → gs_S → Prop) (σ : gs_S) : Prop := gG l v lyC 42 me_V_width n (qI v lyC 42 post) 0 [(0, .ref (v.2.2 17))] [] σ
set_option maxRecDepth 20000 in
set_option maxHeartbeats 1000000 in
theorem T_V_width_0 {l : Launch} {v : gs_V} {n : Nat} {post : Int32 → gs_S → Prop} {σ : gs_S} (h : gM l v lyC 42 me_V_find n [.ref (v.2.2 17)] σ (qV v lyC 42 (fun σ1 => post (σ1.1 17 4) σ1))) : G_V_width_0 l v n post σ := by
  refine g_aload_n d_V_width_0 0 rfl rfl ?_
  refine g_callVv (av := []) (rest := []) d_V_width_1 Y_V_find lk_V_34 (by decide) rfl rfl I_V_find rfl (Nat.le_of_ble_eq_true rfl) rfl h (fun σ1 h => ?_)
  refine g_aload_n d_V_width_4 0 rfl rfl ?_
  refine g_getV (x := .int (σ1.1 17 4)) d_V_width_5 fl_V_19 (by decide) rfl rfl rfl ?_
  exact g_iret d_V_width_8 rfl h
theorem E_V_width {l : Launch} {v : gs_V} {n : Nat} {post : Int32 → gs_S → Prop} {σ : gs_S} (h : G_V_width_0 l v n post σ) : gM l v lyC 42 me_V_width (n + 1) [.ref (v.2.2 17)] σ (qI v lyC 42 post) := gM_of (by decide +kernel) (Nat.le_of_ble_eq_true rfl) h
