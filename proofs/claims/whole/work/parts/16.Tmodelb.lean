/-! LineRulesModel.findOrphan -/
theorem d_M_findOrphan_0 : decode me_M_findOrphan.2.1 0 = .ok (.aload_n 0, 1) := by decide +kernel
theorem d_M_findOrphan_1 : decode me_M_findOrphan.2.1 1 = .ok (.getfield 207, 3) := by decide +kernel
theorem d_M_findOrphan_4 : decode me_M_findOrphan.2.1 4 = .ok (.ifCond .eq 4, 3) := by decide +kernel
theorem d_M_findOrphan_7 : decode me_M_findOrphan.2.1 7 = .ok (.return_, 1) := by decide +kernel
theorem d_M_findOrphan_8 : decode me_M_findOrphan.2.1 8 = .ok (.aload_n 0, 1) := by decide +kernel
theorem d_M_findOrphan_9 : decode me_M_findOrphan.2.1 9 = .ok (.iconst 1, 1) := by decide +kernel
theorem d_M_findOrphan_10 : decode me_M_findOrphan.2.1 10 = .ok (.putfield 207, 3) := by decide +kernel
theorem d_M_findOrphan_13 : decode me_M_findOrphan.2.1 13 = .ok (.aload_n 0, 1) := by decide +kernel
theorem d_M_findOrphan_14 : decode me_M_findOrphan.2.1 14 = .ok (.iconst 0, 1) := by decide +kernel
theorem d_M_findOrphan_15 : decode me_M_findOrphan.2.1 15 = .ok (.putfield 270, 3) := by decide +kernel
theorem d_M_findOrphan_18 : decode me_M_findOrphan.2.1 18 = .ok (.aload_n 0, 1) := by decide +kernel
theorem d_M_findOrphan_19 : decode me_M_findOrphan.2.1 19 = .ok (.invokevirtual 273, 3) := by decide +kernel
theorem d_M_findOrphan_22 : decode me_M_findOrphan.2.1 22 = .ok (.iconst 1, 1) := by decide +kernel
theorem d_M_findOrphan_23 : decode me_M_findOrphan.2.1 23 = .ok (.if_icmp .ne 4, 3) := by decide +kernel
theorem d_M_findOrphan_26 : decode me_M_findOrphan.2.1 26 = .ok (.return_, 1) := by decide +kernel
theorem d_M_findOrphan_27 : decode me_M_findOrphan.2.1 27 = .ok (.aload_n 0, 1) := by decide +kernel
theorem d_M_findOrphan_28 : decode me_M_findOrphan.2.1 28 = .ok (.getfield 91, 3) := by decide +kernel
theorem d_M_findOrphan_31 : decode me_M_findOrphan.2.1 31 = .ok (.iconst 0, 1) := by decide +kernel
theorem d_M_findOrphan_32 : decode me_M_findOrphan.2.1 32 = .ok (.aload_n 0, 1) := by decide +kernel
theorem d_M_findOrphan_33 : decode me_M_findOrphan.2.1 33 = .ok (.getfield 188, 3) := by decide +kernel
theorem d_M_findOrphan_36 : decode me_M_findOrphan.2.1 36 = .ok (.bipush 64, 2) := by decide +kernel
theorem d_M_findOrphan_38 : decode me_M_findOrphan.2.1 38 = .ok (.if_icmp .ne 9, 3) := by decide +kernel
theorem d_M_findOrphan_41 : decode me_M_findOrphan.2.1 41 = .ok (.ldc2_w 276, 3) := by decide +kernel
theorem d_M_findOrphan_44 : decode me_M_findOrphan.2.1 44 = .ok (.goto 11, 3) := by decide +kernel
theorem d_M_findOrphan_47 : decode me_M_findOrphan.2.1 47 = .ok (.lconst 1, 1) := by decide +kernel
theorem d_M_findOrphan_48 : decode me_M_findOrphan.2.1 48 = .ok (.aload_n 0, 1) := by decide +kernel
theorem d_M_findOrphan_49 : decode me_M_findOrphan.2.1 49 = .ok (.getfield 188, 3) := by decide +kernel
theorem d_M_findOrphan_52 : decode me_M_findOrphan.2.1 52 = .ok (.lshl, 1) := by decide +kernel
theorem d_M_findOrphan_53 : decode me_M_findOrphan.2.1 53 = .ok (.lconst 1, 1) := by decide +kernel
theorem d_M_findOrphan_54 : decode me_M_findOrphan.2.1 54 = .ok (.lsub, 1) := by decide +kernel
theorem d_M_findOrphan_55 : decode me_M_findOrphan.2.1 55 = .ok (.lastore, 1) := by decide +kernel
theorem d_M_findOrphan_56 : decode me_M_findOrphan.2.1 56 = .ok (.iconst 1, 1) := by decide +kernel
theorem d_M_findOrphan_57 : decode me_M_findOrphan.2.1 57 = .ok (.istore_n 1, 1) := by decide +kernel
theorem d_M_findOrphan_58 : decode me_M_findOrphan.2.1 58 = .ok (.iconst 0, 1) := by decide +kernel
theorem d_M_findOrphan_59 : decode me_M_findOrphan.2.1 59 = .ok (.istore_n 2, 1) := by decide +kernel
theorem d_M_findOrphan_60 : decode me_M_findOrphan.2.1 60 = .ok (.iload_n 2, 1) := by decide +kernel
theorem d_M_findOrphan_61 : decode me_M_findOrphan.2.1 61 = .ok (.iload_n 1, 1) := by decide +kernel
theorem d_M_findOrphan_62 : decode me_M_findOrphan.2.1 62 = .ok (.if_icmp .ge 139, 3) := by decide +kernel
theorem d_M_findOrphan_65 : decode me_M_findOrphan.2.1 65 = .ok (.iconst 0, 1) := by decide +kernel
theorem d_M_findOrphan_66 : decode me_M_findOrphan.2.1 66 = .ok (.istore_n 3, 1) := by decide +kernel
theorem d_M_findOrphan_67 : decode me_M_findOrphan.2.1 67 = .ok (.iload_n 3, 1) := by decide +kernel
theorem d_M_findOrphan_68 : decode me_M_findOrphan.2.1 68 = .ok (.aload_n 0, 1) := by decide +kernel
theorem d_M_findOrphan_69 : decode me_M_findOrphan.2.1 69 = .ok (.getfield 179, 3) := by decide +kernel
theorem d_M_findOrphan_72 : decode me_M_findOrphan.2.1 72 = .ok (.if_icmp .ge 123, 3) := by decide +kernel
theorem d_M_findOrphan_75 : decode me_M_findOrphan.2.1 75 = .ok (.aload_n 0, 1) := by decide +kernel
theorem d_M_findOrphan_76 : decode me_M_findOrphan.2.1 76 = .ok (.aload_n 0, 1) := by decide +kernel
theorem d_M_findOrphan_77 : decode me_M_findOrphan.2.1 77 = .ok (.getfield 91, 3) := by decide +kernel
theorem d_M_findOrphan_80 : decode me_M_findOrphan.2.1 80 = .ok (.iload_n 2, 1) := by decide +kernel
theorem d_M_findOrphan_81 : decode me_M_findOrphan.2.1 81 = .ok (.laload, 1) := by decide +kernel
theorem d_M_findOrphan_82 : decode me_M_findOrphan.2.1 82 = .ok (.iload_n 3, 1) := by decide +kernel
theorem d_M_findOrphan_83 : decode me_M_findOrphan.2.1 83 = .ok (.invokevirtual 278, 3) := by decide +kernel
theorem d_M_findOrphan_86 : decode me_M_findOrphan.2.1 86 = .ok (.lstore 4, 2) := by decide +kernel
theorem d_M_findOrphan_88 : decode me_M_findOrphan.2.1 88 = .ok (.lload 4, 2) := by decide +kernel
theorem d_M_findOrphan_90 : decode me_M_findOrphan.2.1 90 = .ok (.lconst 0, 1) := by decide +kernel
theorem d_M_findOrphan_91 : decode me_M_findOrphan.2.1 91 = .ok (.lcmp, 1) := by decide +kernel
theorem d_M_findOrphan_92 : decode me_M_findOrphan.2.1 92 = .ok (.ifCond .ne 10, 3) := by decide +kernel
theorem d_M_findOrphan_95 : decode me_M_findOrphan.2.1 95 = .ok (.aload_n 0, 1) := by decide +kernel
theorem d_M_findOrphan_96 : decode me_M_findOrphan.2.1 96 = .ok (.iload_n 2, 1) := by decide +kernel
theorem d_M_findOrphan_97 : decode me_M_findOrphan.2.1 97 = .ok (.iload_n 3, 1) := by decide +kernel
theorem d_M_findOrphan_98 : decode me_M_findOrphan.2.1 98 = .ok (.invokevirtual 282, 3) := by decide +kernel
theorem d_M_findOrphan_101 : decode me_M_findOrphan.2.1 101 = .ok (.return_, 1) := by decide +kernel
theorem d_M_findOrphan_102 : decode me_M_findOrphan.2.1 102 = .ok (.iconst 0, 1) := by decide +kernel
theorem d_M_findOrphan_103 : decode me_M_findOrphan.2.1 103 = .ok (.istore 6, 2) := by decide +kernel
theorem d_M_findOrphan_105 : decode me_M_findOrphan.2.1 105 = .ok (.iconst 0, 1) := by decide +kernel
theorem d_M_findOrphan_106 : decode me_M_findOrphan.2.1 106 = .ok (.istore 7, 2) := by decide +kernel
theorem d_M_findOrphan_108 : decode me_M_findOrphan.2.1 108 = .ok (.iload 7, 2) := by decide +kernel
theorem d_M_findOrphan_110 : decode me_M_findOrphan.2.1 110 = .ok (.iload_n 1, 1) := by decide +kernel
theorem d_M_findOrphan_111 : decode me_M_findOrphan.2.1 111 = .ok (.if_icmp .ge 34, 3) := by decide +kernel
theorem d_M_findOrphan_114 : decode me_M_findOrphan.2.1 114 = .ok (.iload 6, 2) := by decide +kernel
theorem d_M_findOrphan_116 : decode me_M_findOrphan.2.1 116 = .ok (.ifCond .ne 16, 3) := by decide +kernel
theorem d_M_findOrphan_119 : decode me_M_findOrphan.2.1 119 = .ok (.aload_n 0, 1) := by decide +kernel
theorem d_M_findOrphan_120 : decode me_M_findOrphan.2.1 120 = .ok (.getfield 91, 3) := by decide +kernel
theorem d_M_findOrphan_123 : decode me_M_findOrphan.2.1 123 = .ok (.iload 7, 2) := by decide +kernel
theorem d_M_findOrphan_125 : decode me_M_findOrphan.2.1 125 = .ok (.laload, 1) := by decide +kernel
theorem d_M_findOrphan_126 : decode me_M_findOrphan.2.1 126 = .ok (.lload 4, 2) := by decide +kernel
theorem d_M_findOrphan_128 : decode me_M_findOrphan.2.1 128 = .ok (.lcmp, 1) := by decide +kernel
theorem d_M_findOrphan_129 : decode me_M_findOrphan.2.1 129 = .ok (.ifCond .ne 7, 3) := by decide +kernel
theorem d_M_findOrphan_132 : decode me_M_findOrphan.2.1 132 = .ok (.iconst 1, 1) := by decide +kernel
theorem d_M_findOrphan_133 : decode me_M_findOrphan.2.1 133 = .ok (.goto 4, 3) := by decide +kernel
theorem d_M_findOrphan_136 : decode me_M_findOrphan.2.1 136 = .ok (.iconst 0, 1) := by decide +kernel
theorem d_M_findOrphan_137 : decode me_M_findOrphan.2.1 137 = .ok (.istore 6, 2) := by decide +kernel
theorem d_M_findOrphan_139 : decode me_M_findOrphan.2.1 139 = .ok (.iinc 7 1, 3) := by decide +kernel
theorem d_M_findOrphan_142 : decode me_M_findOrphan.2.1 142 = .ok (.goto (-34), 3) := by decide +kernel
theorem d_M_findOrphan_145 : decode me_M_findOrphan.2.1 145 = .ok (.iload 6, 2) := by decide +kernel
theorem d_M_findOrphan_147 : decode me_M_findOrphan.2.1 147 = .ok (.ifCond .ne 28, 3) := by decide +kernel
theorem d_M_findOrphan_150 : decode me_M_findOrphan.2.1 150 = .ok (.aload_n 0, 1) := by decide +kernel
theorem d_M_findOrphan_151 : decode me_M_findOrphan.2.1 151 = .ok (.getfield 91, 3) := by decide +kernel
theorem d_M_findOrphan_154 : decode me_M_findOrphan.2.1 154 = .ok (.iload_n 1, 1) := by decide +kernel
theorem d_M_findOrphan_155 : decode me_M_findOrphan.2.1 155 = .ok (.lload 4, 2) := by decide +kernel
theorem d_M_findOrphan_157 : decode me_M_findOrphan.2.1 157 = .ok (.lastore, 1) := by decide +kernel
theorem d_M_findOrphan_158 : decode me_M_findOrphan.2.1 158 = .ok (.aload_n 0, 1) := by decide +kernel
theorem d_M_findOrphan_159 : decode me_M_findOrphan.2.1 159 = .ok (.getfield 94, 3) := by decide +kernel
theorem d_M_findOrphan_162 : decode me_M_findOrphan.2.1 162 = .ok (.iload_n 1, 1) := by decide +kernel
theorem d_M_findOrphan_163 : decode me_M_findOrphan.2.1 163 = .ok (.iload_n 2, 1) := by decide +kernel
theorem d_M_findOrphan_164 : decode me_M_findOrphan.2.1 164 = .ok (.iastore, 1) := by decide +kernel
theorem d_M_findOrphan_165 : decode me_M_findOrphan.2.1 165 = .ok (.aload_n 0, 1) := by decide +kernel
theorem d_M_findOrphan_166 : decode me_M_findOrphan.2.1 166 = .ok (.getfield 97, 3) := by decide +kernel
theorem d_M_findOrphan_169 : decode me_M_findOrphan.2.1 169 = .ok (.iload_n 1, 1) := by decide +kernel
theorem d_M_findOrphan_170 : decode me_M_findOrphan.2.1 170 = .ok (.iload_n 3, 1) := by decide +kernel
theorem d_M_findOrphan_171 : decode me_M_findOrphan.2.1 171 = .ok (.iastore, 1) := by decide +kernel
theorem d_M_findOrphan_172 : decode me_M_findOrphan.2.1 172 = .ok (.iinc 1 1, 3) := by decide +kernel
theorem d_M_findOrphan_175 : decode me_M_findOrphan.2.1 175 = .ok (.iload_n 1, 1) := by decide +kernel
theorem d_M_findOrphan_176 : decode me_M_findOrphan.2.1 176 = .ok (.sipush 500, 3) := by decide +kernel
theorem d_M_findOrphan_179 : decode me_M_findOrphan.2.1 179 = .ok (.if_icmp .ne 10, 3) := by decide +kernel
theorem d_M_findOrphan_182 : decode me_M_findOrphan.2.1 182 = .ok (.aload_n 0, 1) := by decide +kernel
theorem d_M_findOrphan_183 : decode me_M_findOrphan.2.1 183 = .ok (.bipush (-2), 2) := by decide +kernel
theorem d_M_findOrphan_185 : decode me_M_findOrphan.2.1 185 = .ok (.putfield 270, 3) := by decide +kernel
theorem d_M_findOrphan_188 : decode me_M_findOrphan.2.1 188 = .ok (.return_, 1) := by decide +kernel
theorem d_M_findOrphan_189 : decode me_M_findOrphan.2.1 189 = .ok (.iinc 3 1, 3) := by decide +kernel
theorem d_M_findOrphan_192 : decode me_M_findOrphan.2.1 192 = .ok (.goto (-125), 3) := by decide +kernel
theorem d_M_findOrphan_195 : decode me_M_findOrphan.2.1 195 = .ok (.iinc 2 1, 3) := by decide +kernel
theorem d_M_findOrphan_198 : decode me_M_findOrphan.2.1 198 = .ok (.goto (-138), 3) := by decide +kernel
theorem d_M_findOrphan_201 : decode me_M_findOrphan.2.1 201 = .ok (.return_, 1) := by decide +kernel
abbrev G_M_findOrphan_0 (l : Launch) (v : gs_V) (n : Nat) (post : gs_S → Prop) (σ : gs_S) : Prop := gG l v lyM 33 me_M_findOrphan n (qV v lyM 33 post) 0 [(0, .ref (v.2.2 0))] [] σ
abbrev G_M_findOrphan_55 (l : Launch) (v : gs_V) (n : Nat) (post : gs_S → Prop) (σ : gs_S) (s0 : Int64) (s1 : Int32) : Prop := gG l v lyM 33 me_M_findOrphan n (qV v lyM 33 post) 55 [(0, .ref (v.2.2 0))] [.long s0, .int s1, .ref (v.2.2 26)] σ
abbrev G_M_findOrphan_60 (l : Launch) (v : gs_V) (n : Nat) (post : gs_S → Prop) (σ : gs_S) (x1 : Int32) (x2 : Int32) : Prop := gG l v lyM 33 me_M_findOrphan n (qV v lyM 33 post) 60 [(0, .ref (v.2.2 0)), (1, .int x1), (2, .int x2)] [] σ
abbrev G_M_findOrphan_67 (l : Launch) (v : gs_V) (n : Nat) (post : gs_S → Prop) (σ : gs_S) (x1 : Int32) (x2 : Int32) (x3 : Int32) : Prop := gG l v lyM 33 me_M_findOrphan n (qV v lyM 33 post) 67 [(0, .ref (v.2.2 0)), (1, .int x1), (2, .int x2), (3, .int x3)] [] σ
abbrev G_M_findOrphan_108 (l : Launch) (v : gs_V) (n : Nat) (post : gs_S → Prop) (σ : gs_S) (x1 : Int32) (x2 : Int32) (x3 : Int32) (x4 : Int64) (x6 : Int32) (x7 : Int32) : Prop := gG l v lyM 33 me_M_findOrphan n (qV v lyM 33 post) 108 [(0, .ref (v.2.2 0)), (1, .int x1), (2, .int x2), (3, .int x3), (4, .long x4), (6, .int x6), (7, .int x7)] [] σ
abbrev G_M_findOrphan_132 (l : Launch) (v : gs_V) (n : Nat) (post : gs_S → Prop) (σ : gs_S) (x1 : Int32) (x2 : Int32) (x3 : Int32) (x4 : Int64) (x7 : Int32) : Prop := gG l v lyM 33 me_M_findOrphan n (qV v lyM 33 post) 132 [(0, .ref (v.2.2 0)), (1, .int x1), (2, .int x2), (3, .int x3), (4, .long x4), (7, .int x7)] [] σ
abbrev G_M_findOrphan_137 (l : Launch) (v : gs_V) (n : Nat) (post : gs_S → Prop) (σ : gs_S) (x1 : Int32) (x2 : Int32) (x3 : Int32) (x4 : Int64) (x7 : Int32) (s0 : Int32) : Prop := gG l v lyM 33 me_M_findOrphan n (qV v lyM 33 post) 137 [(0, .ref (v.2.2 0)), (1, .int x1), (2, .int x2), (3, .int x3), (4, .long x4), (7, .int x7)] [.int s0] σ
abbrev G_M_findOrphan_175 (l : Launch) (v : gs_V) (n : Nat) (post : gs_S → Prop) (σ : gs_S) (x1 : Int32) (x2 : Int32) (x3 : Int32) : Prop := gG l v lyM 33 me_M_findOrphan n (qV v lyM 33 post) 175 [(0, .ref (v.2.2 0)), (1, .int x1), (2, .int x2), (3, .int x3)] [] σ
set_option maxRecDepth 20000 in
set_option maxHeartbeats 1000000 in
theorem T_M_findOrphan_0 {l : Launch} {v : gs_V} {n : Nat} {post : gs_S → Prop} {σ : gs_S} (h : (((σ.1 0 41) = 0 → gM l v lyM 33 me_M_surjective n [.ref (v.2.2 0)] (gs_pI (gs_pI σ 0 41 1) 0 42 0) (qI v lyM 33 (fun r1 σ1 => ((¬ r1 = 1 → ((¬ (σ1.1 0 4) = 64 → G_M_findOrphan_55 l v n post σ1 ((jS 1 (σ1.1 0 4)) - 1) 0) ∧ ((σ1.1 0 4) = 64 → G_M_findOrphan_55 l v n post σ1 ((-1)) 0))) ∧ (r1 = 1 → post σ1))))) ∧ (¬ (σ.1 0 41) = 0 → post σ))) : G_M_findOrphan_0 l v n post σ := by
  refine g_aload_n d_M_findOrphan_0 0 rfl rfl ?_
  refine g_getV (x := .int (σ.1 0 41)) d_M_findOrphan_1 fl_M_207 (by decide) rfl rfl rfl ?_
  refine g_if_eq (tgt := 8) d_M_findOrphan_4 rfl (fun hc => ?_) (fun hc => ?_)
  · have h := h.1 hc
    refine g_aload_n d_M_findOrphan_8 0 rfl rfl ?_
    refine g_iconst d_M_findOrphan_9 (x := 1) (by decide) ?_
    refine g_putI d_M_findOrphan_10 fp_M_207 (by decide) rfl rfl ⟨rfl, rfl⟩ ?_
    refine g_aload_n d_M_findOrphan_13 0 rfl rfl ?_
    refine g_iconst d_M_findOrphan_14 (x := 0) (by decide) ?_
    refine g_putI d_M_findOrphan_15 fp_M_270 (by decide) rfl rfl ⟨rfl, rfl⟩ ?_
    refine g_aload_n d_M_findOrphan_18 0 rfl rfl ?_
    refine g_callVi (av := []) (rest := []) d_M_findOrphan_19 Y_M_surjective lk_M_273 (by decide) rfl rfl I_M_surjective rfl (Nat.le_of_ble_eq_true rfl) rfl h (fun r1 σ1 h => ?_)
    refine g_iconst d_M_findOrphan_22 (x := 1) (by decide) ?_
    refine g_icmp_ne (tgt := 27) d_M_findOrphan_23 rfl (fun hc => ?_) (fun hc => ?_)
    · have h := h.1 hc
      refine g_aload_n d_M_findOrphan_27 0 rfl rfl ?_
      refine g_getV (x := .ref (v.2.2 26)) d_M_findOrphan_28 fl_M_91 (by decide) rfl rfl rfl ?_
      refine g_iconst d_M_findOrphan_31 (x := 0) (by decide) ?_
      refine g_aload_n d_M_findOrphan_32 0 rfl rfl ?_
      refine g_getV (x := .int (σ1.1 0 4)) d_M_findOrphan_33 fl_M_188 (by decide) rfl rfl rfl ?_
      refine g_bipush d_M_findOrphan_36 (x := 64) (by decide) ?_
      refine g_icmp_ne (tgt := 47) d_M_findOrphan_38 rfl (fun hc => ?_) (fun hc => ?_)
      · have h := h.1 hc
        refine g_lconst d_M_findOrphan_47 (x := 1) (by decide) ?_
        refine g_aload_n d_M_findOrphan_48 0 rfl rfl ?_
        refine g_getV (x := .int (σ1.1 0 4)) d_M_findOrphan_49 fl_M_188 (by decide) rfl rfl rfl ?_
        refine g_lshl d_M_findOrphan_52 ?_
        refine g_lconst d_M_findOrphan_53 (x := 1) (by decide) ?_
        refine g_lsub d_M_findOrphan_54 ?_
        exact h
      · have h := h.2 hc
        refine g_ldc2 d_M_findOrphan_41 (x := (-1)) (gw_t5 (List.mem_of_getElem? (i := 172) rfl) rfl) ?_
        refine g_goto (tgt := 55) d_M_findOrphan_44 rfl ?_
        exact h
    · have h := h.2 hc
      exact g_vret d_M_findOrphan_26 rfl h
  · have h := h.2 hc
    exact g_vret d_M_findOrphan_7 rfl h
set_option maxRecDepth 20000 in
set_option maxHeartbeats 1000000 in
theorem T_M_findOrphan_55 {l : Launch} {v : gs_V} {n : Nat} {post : gs_S → Prop} {σ : gs_S} {s0 : Int64} {s1 : Int32} (h : vp_in s1 500 ∧ G_M_findOrphan_60 l v n post (gs_pL σ 26 s1.toNatClampNeg s0) 1 0) : G_M_findOrphan_55 l v n post σ s0 s1 := by
  have hi1 := h.1
  have h := h.2
  refine g_last d_M_findOrphan_55 (by decide) rfl hi1 ?_
  refine g_iconst d_M_findOrphan_56 (x := 1) (by decide) ?_
  refine g_istore_n (L' := [(1, .int 1), (0, .ref (v.2.2 0))]) d_M_findOrphan_57 rfl (by decide) rfl ?_
  refine g_iconst d_M_findOrphan_58 (x := 0) (by decide) ?_
  refine g_istore_n (L' := [(2, .int 0), (1, .int 1), (0, .ref (v.2.2 0))]) d_M_findOrphan_59 rfl (by decide) rfl ?_
  exact g_sub [2, 1, 0] rfl h
set_option maxRecDepth 20000 in
set_option maxHeartbeats 1000000 in
theorem T_M_findOrphan_60 {l : Launch} {v : gs_V} {n : Nat} {post : gs_S → Prop} {σ : gs_S} {x1 : Int32} {x2 : Int32} (h : ((x1 ≤ x2 → post σ) ∧ (¬ x1 ≤ x2 → G_M_findOrphan_67 l v n post σ x1 x2 0))) : G_M_findOrphan_60 l v n post σ x1 x2 := by
  refine g_iload_n d_M_findOrphan_60 2 rfl rfl ?_
  refine g_iload_n d_M_findOrphan_61 1 rfl rfl ?_
  refine g_icmp_ge (tgt := 201) d_M_findOrphan_62 rfl (fun hc => ?_) (fun hc => ?_)
  · have h := h.1 hc
    exact g_vret d_M_findOrphan_201 rfl h
  · have h := h.2 hc
    refine g_iconst d_M_findOrphan_65 (x := 0) (by decide) ?_
    refine g_istore_n (L' := [(3, .int 0), (0, .ref (v.2.2 0)), (1, .int x1), (2, .int x2)]) d_M_findOrphan_66 rfl (by decide) rfl ?_
    exact g_sub [1, 2, 3, 0] rfl h
set_option maxRecDepth 20000 in
set_option maxHeartbeats 1000000 in
theorem T_M_findOrphan_67 {l : Launch} {v : gs_V} {n : Nat} {post : gs_S → Prop} {σ : gs_S} {x1 : Int32} {x2 : Int32} {x3 : Int32} (h : (((σ.1 0 2) ≤ x3 → G_M_findOrphan_60 l v n post σ x1 (x2 + 1)) ∧ (¬ (σ.1 0 2) ≤ x3 → vp_in x2 500 ∧ gM l v lyM 33 me_M_behind n [.ref (v.2.2 0), .long (σ.2.1 26 x2.toNatClampNeg), .int x3] σ (qL v lyM 33 (fun r2 σ2 => ((¬ r2 = 0 → G_M_findOrphan_108 l v n post σ2 x1 x2 x3 r2 0 0) ∧ (r2 = 0 → gM l v lyM 33 me_M_spell n [.ref (v.2.2 0), .int x2, .int x3] σ2 (qV v lyM 33 (fun σ3 => post σ3))))))))) : G_M_findOrphan_67 l v n post σ x1 x2 x3 := by
  refine g_iload_n d_M_findOrphan_67 3 rfl rfl ?_
  refine g_aload_n d_M_findOrphan_68 0 rfl rfl ?_
  refine g_getV (x := .int (σ.1 0 2)) d_M_findOrphan_69 fl_M_179 (by decide) rfl rfl rfl ?_
  refine g_icmp_ge (tgt := 195) d_M_findOrphan_72 rfl (fun hc => ?_) (fun hc => ?_)
  · have h := h.1 hc
    refine g_iinc (L' := [(2, .int (x2 + 1)), (0, .ref (v.2.2 0)), (1, .int x1), (3, .int x3)]) d_M_findOrphan_195 2 rfl (by rfl) (by decide) rfl ?_
    refine g_goto (tgt := 60) d_M_findOrphan_198 rfl ?_
    exact g_sub [1, 2, 0] rfl h
  · have h := h.2 hc
    refine g_aload_n d_M_findOrphan_75 0 rfl rfl ?_
    refine g_aload_n d_M_findOrphan_76 0 rfl rfl ?_
    refine g_getV (x := .ref (v.2.2 26)) d_M_findOrphan_77 fl_M_91 (by decide) rfl rfl rfl ?_
    refine g_iload_n d_M_findOrphan_80 2 rfl rfl ?_
    have hi1 := h.1
    have h := h.2
    refine g_lald (x := σ.2.1 26 x2.toNatClampNeg) d_M_findOrphan_81 (by decide) rfl hi1 rfl ?_
    refine g_iload_n d_M_findOrphan_82 3 rfl rfl ?_
    refine g_callVl (av := [.long (σ.2.1 26 x2.toNatClampNeg), .int x3]) (rest := []) d_M_findOrphan_83 Y_M_behind lk_M_278 (by decide) rfl rfl I_M_behind rfl (Nat.le_of_ble_eq_true rfl) rfl h (fun r2 σ2 h => ?_)
    refine g_lstore (L' := [(4, .long r2), (0, .ref (v.2.2 0)), (1, .int x1), (2, .int x2), (3, .int x3)]) d_M_findOrphan_86 (by decide) rfl ?_
    refine g_lload d_M_findOrphan_88 0 rfl ?_
    refine g_lconst d_M_findOrphan_90 (x := 0) (by decide) ?_
    refine g_lcmp_ne (tgt := 102) d_M_findOrphan_91 d_M_findOrphan_92 rfl (fun hc => ?_) (fun hc => ?_)
    · have h := h.1 hc
      refine g_iconst d_M_findOrphan_102 (x := 0) (by decide) ?_
      refine g_istore (L' := [(6, .int 0), (4, .long r2), (0, .ref (v.2.2 0)), (1, .int x1), (2, .int x2), (3, .int x3)]) d_M_findOrphan_103 (by decide) rfl ?_
      refine g_iconst d_M_findOrphan_105 (x := 0) (by decide) ?_
      refine g_istore (L' := [(7, .int 0), (6, .int 0), (4, .long r2), (0, .ref (v.2.2 0)), (1, .int x1), (2, .int x2), (3, .int x3)]) d_M_findOrphan_106 (by decide) rfl ?_
      exact g_sub [3, 4, 5, 6, 2, 1, 0] rfl h
    · have h := h.2 hc
      refine g_aload_n d_M_findOrphan_95 1 rfl rfl ?_
      refine g_iload_n d_M_findOrphan_96 3 rfl rfl ?_
      refine g_iload_n d_M_findOrphan_97 4 rfl rfl ?_
      refine g_callVv (av := [.int x2, .int x3]) (rest := []) d_M_findOrphan_98 Y_M_spell lk_M_282 (by decide) rfl rfl I_M_spell rfl (Nat.le_of_ble_eq_true rfl) rfl h (fun σ3 h => ?_)
      exact g_vret d_M_findOrphan_101 rfl h
set_option maxRecDepth 20000 in
set_option maxHeartbeats 1000000 in
theorem T_M_findOrphan_108 {l : Launch} {v : gs_V} {n : Nat} {post : gs_S → Prop} {σ : gs_S} {x1 : Int32} {x2 : Int32} {x3 : Int32} {x4 : Int64} {x6 : Int32} {x7 : Int32} (h : ((x1 ≤ x7 → ((¬ x6 = 0 → G_M_findOrphan_175 l v n post σ x1 x2 x3) ∧ (x6 = 0 → vp_in x1 500 ∧ vp_in x1 500 ∧ vp_in x1 500 ∧ G_M_findOrphan_175 l v n post (gs_pI (gs_pI (gs_pL σ 26 x1.toNatClampNeg x4) 27 x1.toNatClampNeg x2) 28 x1.toNatClampNeg x3) (x1 + 1) x2 x3))) ∧ (¬ x1 ≤ x7 → ((¬ x6 = 0 → G_M_findOrphan_132 l v n post σ x1 x2 x3 x4 x7) ∧ (x6 = 0 → vp_in x7 500 ∧ ((¬ (σ.2.1 26 x7.toNatClampNeg) = x4 → G_M_findOrphan_137 l v n post σ x1 x2 x3 x4 x7 0) ∧ ((σ.2.1 26 x7.toNatClampNeg) = x4 → G_M_findOrphan_132 l v n post σ x1 x2 x3 x4 x7))))))) : G_M_findOrphan_108 l v n post σ x1 x2 x3 x4 x6 x7 := by
  refine g_iload d_M_findOrphan_108 6 rfl ?_
  refine g_iload_n d_M_findOrphan_110 1 rfl rfl ?_
  refine g_icmp_ge (tgt := 145) d_M_findOrphan_111 rfl (fun hc => ?_) (fun hc => ?_)
  · have h := h.1 hc
    refine g_iload d_M_findOrphan_145 5 rfl ?_
    refine g_if_ne (tgt := 175) d_M_findOrphan_147 rfl (fun hc => ?_) (fun hc => ?_)
    · have h := h.1 hc
      exact g_sub [0, 1, 2, 3] rfl h
    · have h := h.2 hc
      refine g_aload_n d_M_findOrphan_150 0 rfl rfl ?_
      refine g_getV (x := .ref (v.2.2 26)) d_M_findOrphan_151 fl_M_91 (by decide) rfl rfl rfl ?_
      refine g_iload_n d_M_findOrphan_154 1 rfl rfl ?_
      refine g_lload d_M_findOrphan_155 4 rfl ?_
      have hi1 := h.1
      have h := h.2
      refine g_last d_M_findOrphan_157 (by decide) rfl hi1 ?_
      refine g_aload_n d_M_findOrphan_158 0 rfl rfl ?_
      refine g_getV (x := .ref (v.2.2 27)) d_M_findOrphan_159 fl_M_94 (by decide) rfl rfl rfl ?_
      refine g_iload_n d_M_findOrphan_162 1 rfl rfl ?_
      refine g_iload_n d_M_findOrphan_163 2 rfl rfl ?_
      have hi2 := h.1
      have h := h.2
      refine g_iast d_M_findOrphan_164 (by decide) rfl hi2 ?_
      refine g_aload_n d_M_findOrphan_165 0 rfl rfl ?_
      refine g_getV (x := .ref (v.2.2 28)) d_M_findOrphan_166 fl_M_97 (by decide) rfl rfl rfl ?_
      refine g_iload_n d_M_findOrphan_169 1 rfl rfl ?_
      refine g_iload_n d_M_findOrphan_170 3 rfl rfl ?_
      have hi3 := h.1
      have h := h.2
      refine g_iast d_M_findOrphan_171 (by decide) rfl hi3 ?_
      refine g_iinc (L' := [(1, .int (x1 + 1)), (0, .ref (v.2.2 0)), (2, .int x2), (3, .int x3), (4, .long x4), (6, .int x6), (7, .int x7)]) d_M_findOrphan_172 1 rfl (by rfl) (by decide) rfl ?_
      exact g_sub [1, 0, 2, 3] rfl h
  · have h := h.2 hc
    refine g_iload d_M_findOrphan_114 5 rfl ?_
    refine g_if_ne (tgt := 132) d_M_findOrphan_116 rfl (fun hc => ?_) (fun hc => ?_)
    · have h := h.1 hc
      exact g_sub [0, 1, 2, 3, 4, 6] rfl h
    · have h := h.2 hc
      refine g_aload_n d_M_findOrphan_119 0 rfl rfl ?_
      refine g_getV (x := .ref (v.2.2 26)) d_M_findOrphan_120 fl_M_91 (by decide) rfl rfl rfl ?_
      refine g_iload d_M_findOrphan_123 6 rfl ?_
      have hi4 := h.1
      have h := h.2
      refine g_lald (x := σ.2.1 26 x7.toNatClampNeg) d_M_findOrphan_125 (by decide) rfl hi4 rfl ?_
      refine g_lload d_M_findOrphan_126 4 rfl ?_
      refine g_lcmp_ne (tgt := 136) d_M_findOrphan_128 d_M_findOrphan_129 rfl (fun hc => ?_) (fun hc => ?_)
      · have h := h.1 hc
        refine g_iconst d_M_findOrphan_136 (x := 0) (by decide) ?_
        exact g_sub [0, 1, 2, 3, 4, 6] rfl h
      · have h := h.2 hc
        exact g_sub [0, 1, 2, 3, 4, 6] rfl h
set_option maxRecDepth 20000 in
set_option maxHeartbeats 1000000 in
theorem T_M_findOrphan_132 {l : Launch} {v : gs_V} {n : Nat} {post : gs_S → Prop} {σ : gs_S} {x1 : Int32} {x2 : Int32} {x3 : Int32} {x4 : Int64} {x7 : Int32} (h : G_M_findOrphan_137 l v n post σ x1 x2 x3 x4 x7 1) : G_M_findOrphan_132 l v n post σ x1 x2 x3 x4 x7 := by
  refine g_iconst d_M_findOrphan_132 (x := 1) (by decide) ?_
  refine g_goto (tgt := 137) d_M_findOrphan_133 rfl ?_
  exact h
set_option maxRecDepth 20000 in
set_option maxHeartbeats 1000000 in
theorem T_M_findOrphan_137 {l : Launch} {v : gs_V} {n : Nat} {post : gs_S → Prop} {σ : gs_S} {x1 : Int32} {x2 : Int32} {x3 : Int32} {x4 : Int64} {x7 : Int32} {s0 : Int32} (h : G_M_findOrphan_108 l v n post σ x1 x2 x3 x4 s0 (x7 + 1)) : G_M_findOrphan_137 l v n post σ x1 x2 x3 x4 x7 s0 := by
  refine g_istore (L' := [(6, .int s0), (0, .ref (v.2.2 0)), (1, .int x1), (2, .int x2), (3, .int x3), (4, .long x4), (7, .int x7)]) d_M_findOrphan_137 (by decide) rfl ?_
  refine g_iinc (L' := [(7, .int (x7 + 1)), (6, .int s0), (0, .ref (v.2.2 0)), (1, .int x1), (2, .int x2), (3, .int x3), (4, .long x4)]) d_M_findOrphan_139 6 rfl (by rfl) (by decide) rfl ?_
  refine g_goto (tgt := 108) d_M_findOrphan_142 rfl ?_
  exact g_sub [2, 3, 4, 5, 6, 1, 0] rfl h
set_option maxRecDepth 20000 in
set_option maxHeartbeats 1000000 in
theorem T_M_findOrphan_175 {l : Launch} {v : gs_V} {n : Nat} {post : gs_S → Prop} {σ : gs_S} {x1 : Int32} {x2 : Int32} {x3 : Int32} (h : ((¬ x1 = 500 → G_M_findOrphan_67 l v n post σ x1 x2 (x3 + 1)) ∧ (x1 = 500 → post (gs_pI σ 0 42 ((-2)))))) : G_M_findOrphan_175 l v n post σ x1 x2 x3 := by
  refine g_iload_n d_M_findOrphan_175 1 rfl rfl ?_
  refine g_sipush d_M_findOrphan_176 (x := 500) (by decide) ?_
  refine g_icmp_ne (tgt := 189) d_M_findOrphan_179 rfl (fun hc => ?_) (fun hc => ?_)
  · have h := h.1 hc
    refine g_iinc (L' := [(3, .int (x3 + 1)), (0, .ref (v.2.2 0)), (1, .int x1), (2, .int x2)]) d_M_findOrphan_189 3 rfl (by rfl) (by decide) rfl ?_
    refine g_goto (tgt := 67) d_M_findOrphan_192 rfl ?_
    exact g_sub [1, 2, 3, 0] rfl h
  · have h := h.2 hc
    refine g_aload_n d_M_findOrphan_182 0 rfl rfl ?_
    refine g_bipush d_M_findOrphan_183 (x := (-2)) (by decide) ?_
    refine g_putI d_M_findOrphan_185 fp_M_270 (by decide) rfl rfl ⟨rfl, rfl⟩ ?_
    exact g_vret d_M_findOrphan_188 rfl h
theorem E_M_findOrphan {l : Launch} {v : gs_V} {n : Nat} {post : gs_S → Prop} {σ : gs_S} (h : G_M_findOrphan_0 l v n post σ) : gM l v lyM 33 me_M_findOrphan (n + 1) [.ref (v.2.2 0)] σ (qV v lyM 33 post) := gM_of (by decide +kernel) (Nat.le_of_ble_eq_true rfl) h
/-! LineRulesModel.findWeights -/
theorem d_M_findWeights_0 : decode me_M_findWeights.2.1 0 = .ok (.aload_n 0, 1) := by decide +kernel
theorem d_M_findWeights_1 : decode me_M_findWeights.2.1 1 = .ok (.getfield 204, 3) := by decide +kernel
theorem d_M_findWeights_4 : decode me_M_findWeights.2.1 4 = .ok (.ifCond .eq 4, 3) := by decide +kernel
theorem d_M_findWeights_7 : decode me_M_findWeights.2.1 7 = .ok (.return_, 1) := by decide +kernel
theorem d_M_findWeights_8 : decode me_M_findWeights.2.1 8 = .ok (.aload_n 0, 1) := by decide +kernel
theorem d_M_findWeights_9 : decode me_M_findWeights.2.1 9 = .ok (.iconst 1, 1) := by decide +kernel
theorem d_M_findWeights_10 : decode me_M_findWeights.2.1 10 = .ok (.putfield 204, 3) := by decide +kernel
theorem d_M_findWeights_13 : decode me_M_findWeights.2.1 13 = .ok (.aload_n 0, 1) := by decide +kernel
theorem d_M_findWeights_14 : decode me_M_findWeights.2.1 14 = .ok (.iconst 0, 1) := by decide +kernel
theorem d_M_findWeights_15 : decode me_M_findWeights.2.1 15 = .ok (.putfield 255, 3) := by decide +kernel
theorem d_M_findWeights_18 : decode me_M_findWeights.2.1 18 = .ok (.iconst 0, 1) := by decide +kernel
theorem d_M_findWeights_19 : decode me_M_findWeights.2.1 19 = .ok (.istore_n 1, 1) := by decide +kernel
theorem d_M_findWeights_20 : decode me_M_findWeights.2.1 20 = .ok (.iload_n 1, 1) := by decide +kernel
theorem d_M_findWeights_21 : decode me_M_findWeights.2.1 21 = .ok (.iconst 4, 1) := by decide +kernel
theorem d_M_findWeights_22 : decode me_M_findWeights.2.1 22 = .ok (.if_icmp .ge 16, 3) := by decide +kernel
theorem d_M_findWeights_25 : decode me_M_findWeights.2.1 25 = .ok (.aload_n 0, 1) := by decide +kernel
theorem d_M_findWeights_26 : decode me_M_findWeights.2.1 26 = .ok (.getfield 78, 3) := by decide +kernel
theorem d_M_findWeights_29 : decode me_M_findWeights.2.1 29 = .ok (.iload_n 1, 1) := by decide +kernel
theorem d_M_findWeights_30 : decode me_M_findWeights.2.1 30 = .ok (.iconst 0, 1) := by decide +kernel
theorem d_M_findWeights_31 : decode me_M_findWeights.2.1 31 = .ok (.bastore, 1) := by decide +kernel
theorem d_M_findWeights_32 : decode me_M_findWeights.2.1 32 = .ok (.iinc 1 1, 3) := by decide +kernel
theorem d_M_findWeights_35 : decode me_M_findWeights.2.1 35 = .ok (.goto (-15), 3) := by decide +kernel
theorem d_M_findWeights_38 : decode me_M_findWeights.2.1 38 = .ok (.iconst 0, 1) := by decide +kernel
theorem d_M_findWeights_39 : decode me_M_findWeights.2.1 39 = .ok (.istore_n 1, 1) := by decide +kernel
theorem d_M_findWeights_40 : decode me_M_findWeights.2.1 40 = .ok (.iload_n 1, 1) := by decide +kernel
theorem d_M_findWeights_41 : decode me_M_findWeights.2.1 41 = .ok (.aload_n 0, 1) := by decide +kernel
theorem d_M_findWeights_42 : decode me_M_findWeights.2.1 42 = .ok (.getfield 185, 3) := by decide +kernel
theorem d_M_findWeights_45 : decode me_M_findWeights.2.1 45 = .ok (.if_icmp .ge 18, 3) := by decide +kernel
theorem d_M_findWeights_48 : decode me_M_findWeights.2.1 48 = .ok (.aload_n 0, 1) := by decide +kernel
theorem d_M_findWeights_49 : decode me_M_findWeights.2.1 49 = .ok (.iload_n 1, 1) := by decide +kernel
theorem d_M_findWeights_50 : decode me_M_findWeights.2.1 50 = .ok (.invokevirtual 258, 3) := by decide +kernel
theorem d_M_findWeights_53 : decode me_M_findWeights.2.1 53 = .ok (.aload_n 0, 1) := by decide +kernel
theorem d_M_findWeights_54 : decode me_M_findWeights.2.1 54 = .ok (.invokevirtual 261, 3) := by decide +kernel
theorem d_M_findWeights_57 : decode me_M_findWeights.2.1 57 = .ok (.iinc 1 1, 3) := by decide +kernel
theorem d_M_findWeights_60 : decode me_M_findWeights.2.1 60 = .ok (.goto (-20), 3) := by decide +kernel
theorem d_M_findWeights_63 : decode me_M_findWeights.2.1 63 = .ok (.iconst 1, 1) := by decide +kernel
theorem d_M_findWeights_64 : decode me_M_findWeights.2.1 64 = .ok (.istore_n 1, 1) := by decide +kernel
theorem d_M_findWeights_65 : decode me_M_findWeights.2.1 65 = .ok (.iload_n 1, 1) := by decide +kernel
theorem d_M_findWeights_66 : decode me_M_findWeights.2.1 66 = .ok (.aload_n 0, 1) := by decide +kernel
theorem d_M_findWeights_67 : decode me_M_findWeights.2.1 67 = .ok (.getfield 179, 3) := by decide +kernel
theorem d_M_findWeights_70 : decode me_M_findWeights.2.1 70 = .ok (.if_icmp .ge 23, 3) := by decide +kernel
theorem d_M_findWeights_73 : decode me_M_findWeights.2.1 73 = .ok (.aload_n 0, 1) := by decide +kernel
theorem d_M_findWeights_74 : decode me_M_findWeights.2.1 74 = .ok (.getfield 78, 3) := by decide +kernel
theorem d_M_findWeights_77 : decode me_M_findWeights.2.1 77 = .ok (.iload_n 1, 1) := by decide +kernel
theorem d_M_findWeights_78 : decode me_M_findWeights.2.1 78 = .ok (.baload, 1) := by decide +kernel
theorem d_M_findWeights_79 : decode me_M_findWeights.2.1 79 = .ok (.ifCond .eq 8, 3) := by decide +kernel
theorem d_M_findWeights_82 : decode me_M_findWeights.2.1 82 = .ok (.aload_n 0, 1) := by decide +kernel
theorem d_M_findWeights_83 : decode me_M_findWeights.2.1 83 = .ok (.iload_n 1, 1) := by decide +kernel
theorem d_M_findWeights_84 : decode me_M_findWeights.2.1 84 = .ok (.invokevirtual 264, 3) := by decide +kernel
theorem d_M_findWeights_87 : decode me_M_findWeights.2.1 87 = .ok (.iinc 1 1, 3) := by decide +kernel
theorem d_M_findWeights_90 : decode me_M_findWeights.2.1 90 = .ok (.goto (-25), 3) := by decide +kernel
theorem d_M_findWeights_93 : decode me_M_findWeights.2.1 93 = .ok (.iconst 1, 1) := by decide +kernel
theorem d_M_findWeights_94 : decode me_M_findWeights.2.1 94 = .ok (.istore_n 1, 1) := by decide +kernel
theorem d_M_findWeights_95 : decode me_M_findWeights.2.1 95 = .ok (.iload_n 1, 1) := by decide +kernel
theorem d_M_findWeights_96 : decode me_M_findWeights.2.1 96 = .ok (.aload_n 0, 1) := by decide +kernel
theorem d_M_findWeights_97 : decode me_M_findWeights.2.1 97 = .ok (.getfield 179, 3) := by decide +kernel
theorem d_M_findWeights_100 : decode me_M_findWeights.2.1 100 = .ok (.if_icmp .ge 252, 3) := by decide +kernel
theorem d_M_findWeights_103 : decode me_M_findWeights.2.1 103 = .ok (.aload_n 0, 1) := by decide +kernel
theorem d_M_findWeights_104 : decode me_M_findWeights.2.1 104 = .ok (.getfield 78, 3) := by decide +kernel
theorem d_M_findWeights_107 : decode me_M_findWeights.2.1 107 = .ok (.iload_n 1, 1) := by decide +kernel
theorem d_M_findWeights_108 : decode me_M_findWeights.2.1 108 = .ok (.baload, 1) := by decide +kernel
theorem d_M_findWeights_109 : decode me_M_findWeights.2.1 109 = .ok (.ifCond .ne 237, 3) := by decide +kernel
theorem d_M_findWeights_112 : decode me_M_findWeights.2.1 112 = .ok (.lconst 1, 1) := by decide +kernel
theorem d_M_findWeights_113 : decode me_M_findWeights.2.1 113 = .ok (.lstore_n 2, 1) := by decide +kernel
theorem d_M_findWeights_114 : decode me_M_findWeights.2.1 114 = .ok (.iconst 1, 1) := by decide +kernel
theorem d_M_findWeights_115 : decode me_M_findWeights.2.1 115 = .ok (.istore 4, 2) := by decide +kernel
theorem d_M_findWeights_117 : decode me_M_findWeights.2.1 117 = .ok (.iload 4, 2) := by decide +kernel
theorem d_M_findWeights_119 : decode me_M_findWeights.2.1 119 = .ok (.aload_n 0, 1) := by decide +kernel
theorem d_M_findWeights_120 : decode me_M_findWeights.2.1 120 = .ok (.getfield 179, 3) := by decide +kernel
theorem d_M_findWeights_123 : decode me_M_findWeights.2.1 123 = .ok (.if_icmp .ge 105, 3) := by decide +kernel
theorem d_M_findWeights_126 : decode me_M_findWeights.2.1 126 = .ok (.aload_n 0, 1) := by decide +kernel
theorem d_M_findWeights_127 : decode me_M_findWeights.2.1 127 = .ok (.getfield 78, 3) := by decide +kernel
theorem d_M_findWeights_130 : decode me_M_findWeights.2.1 130 = .ok (.iload 4, 2) := by decide +kernel
theorem d_M_findWeights_132 : decode me_M_findWeights.2.1 132 = .ok (.baload, 1) := by decide +kernel
theorem d_M_findWeights_133 : decode me_M_findWeights.2.1 133 = .ok (.ifCond .eq 18, 3) := by decide +kernel
theorem d_M_findWeights_136 : decode me_M_findWeights.2.1 136 = .ok (.aload_n 0, 1) := by decide +kernel
theorem d_M_findWeights_137 : decode me_M_findWeights.2.1 137 = .ok (.getfield 81, 3) := by decide +kernel
theorem d_M_findWeights_140 : decode me_M_findWeights.2.1 140 = .ok (.iconst 4, 1) := by decide +kernel
theorem d_M_findWeights_141 : decode me_M_findWeights.2.1 141 = .ok (.iload 4, 2) := by decide +kernel
theorem d_M_findWeights_143 : decode me_M_findWeights.2.1 143 = .ok (.imul, 1) := by decide +kernel
theorem d_M_findWeights_144 : decode me_M_findWeights.2.1 144 = .ok (.iload 4, 2) := by decide +kernel
theorem d_M_findWeights_146 : decode me_M_findWeights.2.1 146 = .ok (.iadd, 1) := by decide +kernel
theorem d_M_findWeights_147 : decode me_M_findWeights.2.1 147 = .ok (.laload, 1) := by decide +kernel
theorem d_M_findWeights_148 : decode me_M_findWeights.2.1 148 = .ok (.goto 4, 3) := by decide +kernel
theorem d_M_findWeights_151 : decode me_M_findWeights.2.1 151 = .ok (.lconst 1, 1) := by decide +kernel
theorem d_M_findWeights_152 : decode me_M_findWeights.2.1 152 = .ok (.lstore 5, 2) := by decide +kernel
theorem d_M_findWeights_154 : decode me_M_findWeights.2.1 154 = .ok (.aload_n 0, 1) := by decide +kernel
theorem d_M_findWeights_155 : decode me_M_findWeights.2.1 155 = .ok (.getfield 78, 3) := by decide +kernel
theorem d_M_findWeights_158 : decode me_M_findWeights.2.1 158 = .ok (.iload 4, 2) := by decide +kernel
theorem d_M_findWeights_160 : decode me_M_findWeights.2.1 160 = .ok (.baload, 1) := by decide +kernel
theorem d_M_findWeights_161 : decode me_M_findWeights.2.1 161 = .ok (.ifCond .eq 17, 3) := by decide +kernel
theorem d_M_findWeights_164 : decode me_M_findWeights.2.1 164 = .ok (.aload_n 0, 1) := by decide +kernel
theorem d_M_findWeights_165 : decode me_M_findWeights.2.1 165 = .ok (.getfield 81, 3) := by decide +kernel
theorem d_M_findWeights_168 : decode me_M_findWeights.2.1 168 = .ok (.iconst 4, 1) := by decide +kernel
theorem d_M_findWeights_169 : decode me_M_findWeights.2.1 169 = .ok (.iload 4, 2) := by decide +kernel
theorem d_M_findWeights_171 : decode me_M_findWeights.2.1 171 = .ok (.imul, 1) := by decide +kernel
theorem d_M_findWeights_172 : decode me_M_findWeights.2.1 172 = .ok (.iload_n 1, 1) := by decide +kernel
theorem d_M_findWeights_173 : decode me_M_findWeights.2.1 173 = .ok (.iadd, 1) := by decide +kernel
theorem d_M_findWeights_174 : decode me_M_findWeights.2.1 174 = .ok (.laload, 1) := by decide +kernel
theorem d_M_findWeights_175 : decode me_M_findWeights.2.1 175 = .ok (.goto 4, 3) := by decide +kernel
theorem d_M_findWeights_178 : decode me_M_findWeights.2.1 178 = .ok (.lconst 0, 1) := by decide +kernel
theorem d_M_findWeights_179 : decode me_M_findWeights.2.1 179 = .ok (.lstore 7, 2) := by decide +kernel
theorem d_M_findWeights_181 : decode me_M_findWeights.2.1 181 = .ok (.lload 5, 2) := by decide +kernel
theorem d_M_findWeights_183 : decode me_M_findWeights.2.1 183 = .ok (.lload 5, 2) := by decide +kernel
theorem d_M_findWeights_185 : decode me_M_findWeights.2.1 185 = .ok (.lload 7, 2) := by decide +kernel
theorem d_M_findWeights_187 : decode me_M_findWeights.2.1 187 = .ok (.invokestatic 248, 3) := by decide +kernel
theorem d_M_findWeights_190 : decode me_M_findWeights.2.1 190 = .ok (.ldiv, 1) := by decide +kernel
theorem d_M_findWeights_191 : decode me_M_findWeights.2.1 191 = .ok (.lstore 9, 2) := by decide +kernel
theorem d_M_findWeights_193 : decode me_M_findWeights.2.1 193 = .ok (.lload 9, 2) := by decide +kernel
theorem d_M_findWeights_195 : decode me_M_findWeights.2.1 195 = .ok (.lconst 0, 1) := by decide +kernel
theorem d_M_findWeights_196 : decode me_M_findWeights.2.1 196 = .ok (.lcmp, 1) := by decide +kernel
theorem d_M_findWeights_197 : decode me_M_findWeights.2.1 197 = .ok (.ifCond .ge 9, 3) := by decide +kernel
theorem d_M_findWeights_200 : decode me_M_findWeights.2.1 200 = .ok (.lload 9, 2) := by decide +kernel
theorem d_M_findWeights_202 : decode me_M_findWeights.2.1 202 = .ok (.lneg, 1) := by decide +kernel
theorem d_M_findWeights_203 : decode me_M_findWeights.2.1 203 = .ok (.goto 5, 3) := by decide +kernel
theorem d_M_findWeights_206 : decode me_M_findWeights.2.1 206 = .ok (.lload 9, 2) := by decide +kernel
theorem d_M_findWeights_208 : decode me_M_findWeights.2.1 208 = .ok (.lstore 9, 2) := by decide +kernel
theorem d_M_findWeights_210 : decode me_M_findWeights.2.1 210 = .ok (.lload_n 2, 1) := by decide +kernel
theorem d_M_findWeights_211 : decode me_M_findWeights.2.1 211 = .ok (.lload_n 2, 1) := by decide +kernel
theorem d_M_findWeights_212 : decode me_M_findWeights.2.1 212 = .ok (.lload 9, 2) := by decide +kernel
theorem d_M_findWeights_214 : decode me_M_findWeights.2.1 214 = .ok (.invokestatic 248, 3) := by decide +kernel
theorem d_M_findWeights_217 : decode me_M_findWeights.2.1 217 = .ok (.ldiv, 1) := by decide +kernel
theorem d_M_findWeights_218 : decode me_M_findWeights.2.1 218 = .ok (.lload 9, 2) := by decide +kernel
theorem d_M_findWeights_220 : decode me_M_findWeights.2.1 220 = .ok (.lmul, 1) := by decide +kernel
theorem d_M_findWeights_221 : decode me_M_findWeights.2.1 221 = .ok (.lstore_n 2, 1) := by decide +kernel
theorem d_M_findWeights_222 : decode me_M_findWeights.2.1 222 = .ok (.iinc 4 1, 3) := by decide +kernel
theorem d_M_findWeights_225 : decode me_M_findWeights.2.1 225 = .ok (.goto (-108), 3) := by decide +kernel
theorem d_M_findWeights_228 : decode me_M_findWeights.2.1 228 = .ok (.iconst 0, 1) := by decide +kernel
theorem d_M_findWeights_229 : decode me_M_findWeights.2.1 229 = .ok (.istore 4, 2) := by decide +kernel
theorem d_M_findWeights_231 : decode me_M_findWeights.2.1 231 = .ok (.iload 4, 2) := by decide +kernel
theorem d_M_findWeights_233 : decode me_M_findWeights.2.1 233 = .ok (.iconst 4, 1) := by decide +kernel
theorem d_M_findWeights_234 : decode me_M_findWeights.2.1 234 = .ok (.if_icmp .ge 102, 3) := by decide +kernel
theorem d_M_findWeights_237 : decode me_M_findWeights.2.1 237 = .ok (.iload 4, 2) := by decide +kernel
theorem d_M_findWeights_239 : decode me_M_findWeights.2.1 239 = .ok (.ifCond .le 26, 3) := by decide +kernel
theorem d_M_findWeights_242 : decode me_M_findWeights.2.1 242 = .ok (.iload 4, 2) := by decide +kernel
theorem d_M_findWeights_244 : decode me_M_findWeights.2.1 244 = .ok (.aload_n 0, 1) := by decide +kernel
theorem d_M_findWeights_245 : decode me_M_findWeights.2.1 245 = .ok (.getfield 179, 3) := by decide +kernel
theorem d_M_findWeights_248 : decode me_M_findWeights.2.1 248 = .ok (.if_icmp .ge 17, 3) := by decide +kernel
theorem d_M_findWeights_251 : decode me_M_findWeights.2.1 251 = .ok (.aload_n 0, 1) := by decide +kernel
theorem d_M_findWeights_252 : decode me_M_findWeights.2.1 252 = .ok (.getfield 78, 3) := by decide +kernel
theorem d_M_findWeights_255 : decode me_M_findWeights.2.1 255 = .ok (.iload 4, 2) := by decide +kernel
theorem d_M_findWeights_257 : decode me_M_findWeights.2.1 257 = .ok (.baload, 1) := by decide +kernel
theorem d_M_findWeights_258 : decode me_M_findWeights.2.1 258 = .ok (.ifCond .eq 7, 3) := by decide +kernel
theorem d_M_findWeights_261 : decode me_M_findWeights.2.1 261 = .ok (.iconst 1, 1) := by decide +kernel
theorem d_M_findWeights_262 : decode me_M_findWeights.2.1 262 = .ok (.goto 4, 3) := by decide +kernel
theorem d_M_findWeights_265 : decode me_M_findWeights.2.1 265 = .ok (.iconst 0, 1) := by decide +kernel
theorem d_M_findWeights_266 : decode me_M_findWeights.2.1 266 = .ok (.istore 5, 2) := by decide +kernel
theorem d_M_findWeights_268 : decode me_M_findWeights.2.1 268 = .ok (.aload_n 0, 1) := by decide +kernel
theorem d_M_findWeights_269 : decode me_M_findWeights.2.1 269 = .ok (.getfield 75, 3) := by decide +kernel
theorem d_M_findWeights_272 : decode me_M_findWeights.2.1 272 = .ok (.iconst 4, 1) := by decide +kernel
theorem d_M_findWeights_273 : decode me_M_findWeights.2.1 273 = .ok (.aload_n 0, 1) := by decide +kernel
theorem d_M_findWeights_274 : decode me_M_findWeights.2.1 274 = .ok (.getfield 255, 3) := by decide +kernel
theorem d_M_findWeights_277 : decode me_M_findWeights.2.1 277 = .ok (.imul, 1) := by decide +kernel
theorem d_M_findWeights_278 : decode me_M_findWeights.2.1 278 = .ok (.iload 4, 2) := by decide +kernel
theorem d_M_findWeights_280 : decode me_M_findWeights.2.1 280 = .ok (.iadd, 1) := by decide +kernel
theorem d_M_findWeights_281 : decode me_M_findWeights.2.1 281 = .ok (.iload 4, 2) := by decide +kernel
theorem d_M_findWeights_283 : decode me_M_findWeights.2.1 283 = .ok (.iload_n 1, 1) := by decide +kernel
theorem d_M_findWeights_284 : decode me_M_findWeights.2.1 284 = .ok (.if_icmp .ne 8, 3) := by decide +kernel
theorem d_M_findWeights_287 : decode me_M_findWeights.2.1 287 = .ok (.lload_n 2, 1) := by decide +kernel
theorem d_M_findWeights_288 : decode me_M_findWeights.2.1 288 = .ok (.l2i, 1) := by decide +kernel
theorem d_M_findWeights_289 : decode me_M_findWeights.2.1 289 = .ok (.goto 40, 3) := by decide +kernel
theorem d_M_findWeights_292 : decode me_M_findWeights.2.1 292 = .ok (.iload 5, 2) := by decide +kernel
theorem d_M_findWeights_294 : decode me_M_findWeights.2.1 294 = .ok (.ifCond .eq 34, 3) := by decide +kernel
theorem d_M_findWeights_297 : decode me_M_findWeights.2.1 297 = .ok (.aload_n 0, 1) := by decide +kernel
theorem d_M_findWeights_298 : decode me_M_findWeights.2.1 298 = .ok (.getfield 81, 3) := by decide +kernel
theorem d_M_findWeights_301 : decode me_M_findWeights.2.1 301 = .ok (.iconst 4, 1) := by decide +kernel
theorem d_M_findWeights_302 : decode me_M_findWeights.2.1 302 = .ok (.iload 4, 2) := by decide +kernel
theorem d_M_findWeights_304 : decode me_M_findWeights.2.1 304 = .ok (.imul, 1) := by decide +kernel
theorem d_M_findWeights_305 : decode me_M_findWeights.2.1 305 = .ok (.iload_n 1, 1) := by decide +kernel
theorem d_M_findWeights_306 : decode me_M_findWeights.2.1 306 = .ok (.iadd, 1) := by decide +kernel
theorem d_M_findWeights_307 : decode me_M_findWeights.2.1 307 = .ok (.laload, 1) := by decide +kernel
theorem d_M_findWeights_308 : decode me_M_findWeights.2.1 308 = .ok (.lneg, 1) := by decide +kernel
theorem d_M_findWeights_309 : decode me_M_findWeights.2.1 309 = .ok (.lload_n 2, 1) := by decide +kernel
theorem d_M_findWeights_310 : decode me_M_findWeights.2.1 310 = .ok (.lmul, 1) := by decide +kernel
theorem d_M_findWeights_311 : decode me_M_findWeights.2.1 311 = .ok (.aload_n 0, 1) := by decide +kernel
theorem d_M_findWeights_312 : decode me_M_findWeights.2.1 312 = .ok (.getfield 81, 3) := by decide +kernel
theorem d_M_findWeights_315 : decode me_M_findWeights.2.1 315 = .ok (.iconst 4, 1) := by decide +kernel
theorem d_M_findWeights_316 : decode me_M_findWeights.2.1 316 = .ok (.iload 4, 2) := by decide +kernel
theorem d_M_findWeights_318 : decode me_M_findWeights.2.1 318 = .ok (.imul, 1) := by decide +kernel
theorem d_M_findWeights_319 : decode me_M_findWeights.2.1 319 = .ok (.iload 4, 2) := by decide +kernel
theorem d_M_findWeights_321 : decode me_M_findWeights.2.1 321 = .ok (.iadd, 1) := by decide +kernel
theorem d_M_findWeights_322 : decode me_M_findWeights.2.1 322 = .ok (.laload, 1) := by decide +kernel
theorem d_M_findWeights_323 : decode me_M_findWeights.2.1 323 = .ok (.ldiv, 1) := by decide +kernel
theorem d_M_findWeights_324 : decode me_M_findWeights.2.1 324 = .ok (.l2i, 1) := by decide +kernel
theorem d_M_findWeights_325 : decode me_M_findWeights.2.1 325 = .ok (.goto 4, 3) := by decide +kernel
theorem d_M_findWeights_328 : decode me_M_findWeights.2.1 328 = .ok (.iconst 0, 1) := by decide +kernel
theorem d_M_findWeights_329 : decode me_M_findWeights.2.1 329 = .ok (.iastore, 1) := by decide +kernel
theorem d_M_findWeights_330 : decode me_M_findWeights.2.1 330 = .ok (.iinc 4 1, 3) := by decide +kernel
theorem d_M_findWeights_333 : decode me_M_findWeights.2.1 333 = .ok (.goto (-102), 3) := by decide +kernel
theorem d_M_findWeights_336 : decode me_M_findWeights.2.1 336 = .ok (.aload_n 0, 1) := by decide +kernel
theorem d_M_findWeights_337 : decode me_M_findWeights.2.1 337 = .ok (.dup, 1) := by decide +kernel
theorem d_M_findWeights_338 : decode me_M_findWeights.2.1 338 = .ok (.getfield 255, 3) := by decide +kernel
theorem d_M_findWeights_341 : decode me_M_findWeights.2.1 341 = .ok (.iconst 1, 1) := by decide +kernel
theorem d_M_findWeights_342 : decode me_M_findWeights.2.1 342 = .ok (.iadd, 1) := by decide +kernel
theorem d_M_findWeights_343 : decode me_M_findWeights.2.1 343 = .ok (.putfield 255, 3) := by decide +kernel
theorem d_M_findWeights_346 : decode me_M_findWeights.2.1 346 = .ok (.iinc 1 1, 3) := by decide +kernel
theorem d_M_findWeights_349 : decode me_M_findWeights.2.1 349 = .ok (.goto (-254), 3) := by decide +kernel
theorem d_M_findWeights_352 : decode me_M_findWeights.2.1 352 = .ok (.return_, 1) := by decide +kernel
abbrev G_M_findWeights_0 (l : Launch) (v : gs_V) (n : Nat) (post : gs_S → Prop) (σ : gs_S) : Prop := gG l v lyM 33 me_M_findWeights n (qV v lyM 33 post) 0 [(0, .ref (v.2.2 0))] [] σ
abbrev G_M_findWeights_20 (l : Launch) (v : gs_V) (n : Nat) (post : gs_S → Prop) (σ : gs_S) (x1 : Int32) : Prop := gG l v lyM 33 me_M_findWeights n (qV v lyM 33 post) 20 [(0, .ref (v.2.2 0)), (1, .int x1)] [] σ
abbrev G_M_findWeights_40 (l : Launch) (v : gs_V) (n : Nat) (post : gs_S → Prop) (σ : gs_S) (x1 : Int32) : Prop := gG l v lyM 33 me_M_findWeights n (qV v lyM 33 post) 40 [(0, .ref (v.2.2 0)), (1, .int x1)] [] σ
abbrev G_M_findWeights_65 (l : Launch) (v : gs_V) (n : Nat) (post : gs_S → Prop) (σ : gs_S) (x1 : Int32) : Prop := gG l v lyM 33 me_M_findWeights n (qV v lyM 33 post) 65 [(0, .ref (v.2.2 0)), (1, .int x1)] [] σ
abbrev G_M_findWeights_87 (l : Launch) (v : gs_V) (n : Nat) (post : gs_S → Prop) (σ : gs_S) (x1 : Int32) : Prop := gG l v lyM 33 me_M_findWeights n (qV v lyM 33 post) 87 [(0, .ref (v.2.2 0)), (1, .int x1)] [] σ
abbrev G_M_findWeights_95 (l : Launch) (v : gs_V) (n : Nat) (post : gs_S → Prop) (σ : gs_S) (x1 : Int32) : Prop := gG l v lyM 33 me_M_findWeights n (qV v lyM 33 post) 95 [(0, .ref (v.2.2 0)), (1, .int x1)] [] σ
abbrev G_M_findWeights_117 (l : Launch) (v : gs_V) (n : Nat) (post : gs_S → Prop) (σ : gs_S) (x1 : Int32) (x2 : Int64) (x4 : Int32) : Prop := gG l v lyM 33 me_M_findWeights n (qV v lyM 33 post) 117 [(0, .ref (v.2.2 0)), (1, .int x1), (2, .long x2), (4, .int x4)] [] σ
abbrev G_M_findWeights_152 (l : Launch) (v : gs_V) (n : Nat) (post : gs_S → Prop) (σ : gs_S) (x1 : Int32) (x2 : Int64) (x4 : Int32) (s0 : Int64) : Prop := gG l v lyM 33 me_M_findWeights n (qV v lyM 33 post) 152 [(0, .ref (v.2.2 0)), (1, .int x1), (2, .long x2), (4, .int x4)] [.long s0] σ
abbrev G_M_findWeights_179 (l : Launch) (v : gs_V) (n : Nat) (post : gs_S → Prop) (σ : gs_S) (x1 : Int32) (x2 : Int64) (x4 : Int32) (x5 : Int64) (s0 : Int64) : Prop := gG l v lyM 33 me_M_findWeights n (qV v lyM 33 post) 179 [(0, .ref (v.2.2 0)), (1, .int x1), (2, .long x2), (4, .int x4), (5, .long x5)] [.long s0] σ
abbrev G_M_findWeights_208 (l : Launch) (v : gs_V) (n : Nat) (post : gs_S → Prop) (σ : gs_S) (x1 : Int32) (x2 : Int64) (x4 : Int32) (s0 : Int64) : Prop := gG l v lyM 33 me_M_findWeights n (qV v lyM 33 post) 208 [(0, .ref (v.2.2 0)), (1, .int x1), (2, .long x2), (4, .int x4)] [.long s0] σ
abbrev G_M_findWeights_231 (l : Launch) (v : gs_V) (n : Nat) (post : gs_S → Prop) (σ : gs_S) (x1 : Int32) (x2 : Int64) (x4 : Int32) : Prop := gG l v lyM 33 me_M_findWeights n (qV v lyM 33 post) 231 [(0, .ref (v.2.2 0)), (1, .int x1), (2, .long x2), (4, .int x4)] [] σ
abbrev G_M_findWeights_265 (l : Launch) (v : gs_V) (n : Nat) (post : gs_S → Prop) (σ : gs_S) (x1 : Int32) (x2 : Int64) (x4 : Int32) : Prop := gG l v lyM 33 me_M_findWeights n (qV v lyM 33 post) 265 [(0, .ref (v.2.2 0)), (1, .int x1), (2, .long x2), (4, .int x4)] [] σ
abbrev G_M_findWeights_266 (l : Launch) (v : gs_V) (n : Nat) (post : gs_S → Prop) (σ : gs_S) (x1 : Int32) (x2 : Int64) (x4 : Int32) (s0 : Int32) : Prop := gG l v lyM 33 me_M_findWeights n (qV v lyM 33 post) 266 [(0, .ref (v.2.2 0)), (1, .int x1), (2, .long x2), (4, .int x4)] [.int s0] σ
abbrev G_M_findWeights_329 (l : Launch) (v : gs_V) (n : Nat) (post : gs_S → Prop) (σ : gs_S) (x1 : Int32) (x2 : Int64) (x4 : Int32) (s0 : Int32) (s1 : Int32) : Prop := gG l v lyM 33 me_M_findWeights n (qV v lyM 33 post) 329 [(0, .ref (v.2.2 0)), (1, .int x1), (2, .long x2), (4, .int x4)] [.int s0, .int s1, .ref (v.2.2 21)] σ
abbrev G_M_findWeights_346 (l : Launch) (v : gs_V) (n : Nat) (post : gs_S → Prop) (σ : gs_S) (x1 : Int32) : Prop := gG l v lyM 33 me_M_findWeights n (qV v lyM 33 post) 346 [(0, .ref (v.2.2 0)), (1, .int x1)] [] σ
set_option maxRecDepth 20000 in
set_option maxHeartbeats 1000000 in
theorem T_M_findWeights_0 {l : Launch} {v : gs_V} {n : Nat} {post : gs_S → Prop} {σ : gs_S} (h : (((σ.1 0 35) = 0 → G_M_findWeights_20 l v n post (gs_pI (gs_pI σ 0 35 1) 0 36 0) 0) ∧ (¬ (σ.1 0 35) = 0 → post σ))) : G_M_findWeights_0 l v n post σ := by
  refine g_aload_n d_M_findWeights_0 0 rfl rfl ?_
  refine g_getV (x := .int (σ.1 0 35)) d_M_findWeights_1 fl_M_204 (by decide) rfl rfl rfl ?_
  refine g_if_eq (tgt := 8) d_M_findWeights_4 rfl (fun hc => ?_) (fun hc => ?_)
  · have h := h.1 hc
    refine g_aload_n d_M_findWeights_8 0 rfl rfl ?_
    refine g_iconst d_M_findWeights_9 (x := 1) (by decide) ?_
    refine g_putI d_M_findWeights_10 fp_M_204 (by decide) rfl rfl ⟨rfl, rfl⟩ ?_
    refine g_aload_n d_M_findWeights_13 0 rfl rfl ?_
    refine g_iconst d_M_findWeights_14 (x := 0) (by decide) ?_
    refine g_putI d_M_findWeights_15 fp_M_255 (by decide) rfl rfl ⟨rfl, rfl⟩ ?_
    refine g_iconst d_M_findWeights_18 (x := 0) (by decide) ?_
    refine g_istore_n (L' := [(1, .int 0), (0, .ref (v.2.2 0))]) d_M_findWeights_19 rfl (by decide) rfl ?_
    exact g_sub [1, 0] rfl h
  · have h := h.2 hc
    exact g_vret d_M_findWeights_7 rfl h
set_option maxRecDepth 20000 in
set_option maxHeartbeats 1000000 in
theorem T_M_findWeights_20 {l : Launch} {v : gs_V} {n : Nat} {post : gs_S → Prop} {σ : gs_S} {x1 : Int32} (h : ((4 ≤ x1 → G_M_findWeights_40 l v n post σ 0) ∧ (¬ 4 ≤ x1 → vp_in x1 4 ∧ G_M_findWeights_20 l v n post (gs_pI σ 22 x1.toNatClampNeg 0) (x1 + 1)))) : G_M_findWeights_20 l v n post σ x1 := by
  refine g_iload_n d_M_findWeights_20 1 rfl rfl ?_
  refine g_iconst d_M_findWeights_21 (x := 4) (by decide) ?_
  refine g_icmp_ge (tgt := 38) d_M_findWeights_22 rfl (fun hc => ?_) (fun hc => ?_)
  · have h := h.1 hc
    refine g_iconst d_M_findWeights_38 (x := 0) (by decide) ?_
    refine g_istore_n (L' := [(1, .int 0), (0, .ref (v.2.2 0))]) d_M_findWeights_39 rfl (by decide) rfl ?_
    exact g_sub [1, 0] rfl h
  · have h := h.2 hc
    refine g_aload_n d_M_findWeights_25 0 rfl rfl ?_
    refine g_getV (x := .ref (v.2.2 22)) d_M_findWeights_26 fl_M_78 (by decide) rfl rfl rfl ?_
    refine g_iload_n d_M_findWeights_29 1 rfl rfl ?_
    refine g_iconst d_M_findWeights_30 (x := 0) (by decide) ?_
    have hi1 := h.1
    have h := h.2
    refine g_zast d_M_findWeights_31 (by decide) rfl hi1 ?_
    refine g_iinc (L' := [(1, .int (x1 + 1)), (0, .ref (v.2.2 0))]) d_M_findWeights_32 1 rfl (by rfl) (by decide) rfl ?_
    refine g_goto (tgt := 20) d_M_findWeights_35 rfl ?_
    exact g_sub [1, 0] rfl h
set_option maxRecDepth 20000 in
set_option maxHeartbeats 1000000 in
theorem T_M_findWeights_40 {l : Launch} {v : gs_V} {n : Nat} {post : gs_S → Prop} {σ : gs_S} {x1 : Int32} (h : (((σ.1 0 5) ≤ x1 → G_M_findWeights_65 l v n post σ 1) ∧ (¬ (σ.1 0 5) ≤ x1 → gM l v lyM 33 me_M_equation n [.ref (v.2.2 0), .int x1] σ (qV v lyM 33 (fun σ1 => gM l v lyM 33 me_M_keep n [.ref (v.2.2 0)] σ1 (qV v lyM 33 (fun σ2 => G_M_findWeights_40 l v n post σ2 (x1 + 1)))))))) : G_M_findWeights_40 l v n post σ x1 := by
  refine g_iload_n d_M_findWeights_40 1 rfl rfl ?_
  refine g_aload_n d_M_findWeights_41 0 rfl rfl ?_
  refine g_getV (x := .int (σ.1 0 5)) d_M_findWeights_42 fl_M_185 (by decide) rfl rfl rfl ?_
  refine g_icmp_ge (tgt := 63) d_M_findWeights_45 rfl (fun hc => ?_) (fun hc => ?_)
  · have h := h.1 hc
    refine g_iconst d_M_findWeights_63 (x := 1) (by decide) ?_
    refine g_istore_n (L' := [(1, .int 1), (0, .ref (v.2.2 0))]) d_M_findWeights_64 rfl (by decide) rfl ?_
    exact g_sub [1, 0] rfl h
  · have h := h.2 hc
    refine g_aload_n d_M_findWeights_48 0 rfl rfl ?_
    refine g_iload_n d_M_findWeights_49 1 rfl rfl ?_
    refine g_callVv (av := [.int x1]) (rest := []) d_M_findWeights_50 Y_M_equation lk_M_258 (by decide) rfl rfl I_M_equation rfl (Nat.le_of_ble_eq_true rfl) rfl h (fun σ1 h => ?_)
    refine g_aload_n d_M_findWeights_53 0 rfl rfl ?_
    refine g_callVv (av := []) (rest := []) d_M_findWeights_54 Y_M_keep lk_M_261 (by decide) rfl rfl I_M_keep rfl (Nat.le_of_ble_eq_true rfl) rfl h (fun σ2 h => ?_)
    refine g_iinc (L' := [(1, .int (x1 + 1)), (0, .ref (v.2.2 0))]) d_M_findWeights_57 1 rfl (by rfl) (by decide) rfl ?_
    refine g_goto (tgt := 40) d_M_findWeights_60 rfl ?_
    exact g_sub [1, 0] rfl h
set_option maxRecDepth 20000 in
set_option maxHeartbeats 1000000 in
theorem T_M_findWeights_65 {l : Launch} {v : gs_V} {n : Nat} {post : gs_S → Prop} {σ : gs_S} {x1 : Int32} (h : (((σ.1 0 2) ≤ x1 → G_M_findWeights_95 l v n post σ 1) ∧ (¬ (σ.1 0 2) ≤ x1 → vp_in x1 4 ∧ (((σ.1 22 x1.toNatClampNeg) = 0 → G_M_findWeights_87 l v n post σ x1) ∧ (¬ (σ.1 22 x1.toNatClampNeg) = 0 → gM l v lyM 33 me_M_clearRow n [.ref (v.2.2 0), .int x1] σ (qV v lyM 33 (fun σ2 => G_M_findWeights_87 l v n post σ2 x1))))))) : G_M_findWeights_65 l v n post σ x1 := by
  refine g_iload_n d_M_findWeights_65 1 rfl rfl ?_
  refine g_aload_n d_M_findWeights_66 0 rfl rfl ?_
  refine g_getV (x := .int (σ.1 0 2)) d_M_findWeights_67 fl_M_179 (by decide) rfl rfl rfl ?_
  refine g_icmp_ge (tgt := 93) d_M_findWeights_70 rfl (fun hc => ?_) (fun hc => ?_)
  · have h := h.1 hc
    refine g_iconst d_M_findWeights_93 (x := 1) (by decide) ?_
    refine g_istore_n (L' := [(1, .int 1), (0, .ref (v.2.2 0))]) d_M_findWeights_94 rfl (by decide) rfl ?_
    exact g_sub [1, 0] rfl h
  · have h := h.2 hc
    refine g_aload_n d_M_findWeights_73 0 rfl rfl ?_
    refine g_getV (x := .ref (v.2.2 22)) d_M_findWeights_74 fl_M_78 (by decide) rfl rfl rfl ?_
    refine g_iload_n d_M_findWeights_77 1 rfl rfl ?_
    have hi1 := h.1
    have h := h.2
    refine g_zald (x := σ.1 22 x1.toNatClampNeg) d_M_findWeights_78 (by decide) rfl hi1 rfl ?_
    refine g_if_eq (tgt := 87) d_M_findWeights_79 rfl (fun hc => ?_) (fun hc => ?_)
    · have h := h.1 hc
      exact h
    · have h := h.2 hc
      refine g_aload_n d_M_findWeights_82 0 rfl rfl ?_
      refine g_iload_n d_M_findWeights_83 1 rfl rfl ?_
      refine g_callVv (av := [.int x1]) (rest := []) d_M_findWeights_84 Y_M_clearRow lk_M_264 (by decide) rfl rfl I_M_clearRow rfl (Nat.le_of_ble_eq_true rfl) rfl h (fun σ2 h => ?_)
      exact h
set_option maxRecDepth 20000 in
set_option maxHeartbeats 1000000 in
theorem T_M_findWeights_87 {l : Launch} {v : gs_V} {n : Nat} {post : gs_S → Prop} {σ : gs_S} {x1 : Int32} (h : G_M_findWeights_65 l v n post σ (x1 + 1)) : G_M_findWeights_87 l v n post σ x1 := by
  refine g_iinc (L' := [(1, .int (x1 + 1)), (0, .ref (v.2.2 0))]) d_M_findWeights_87 1 rfl (by rfl) (by decide) rfl ?_
  refine g_goto (tgt := 65) d_M_findWeights_90 rfl ?_
  exact g_sub [1, 0] rfl h
set_option maxRecDepth 20000 in
set_option maxHeartbeats 1000000 in
theorem T_M_findWeights_95 {l : Launch} {v : gs_V} {n : Nat} {post : gs_S → Prop} {σ : gs_S} {x1 : Int32} (h : (((σ.1 0 2) ≤ x1 → post σ) ∧ (¬ (σ.1 0 2) ≤ x1 → vp_in x1 4 ∧ ((¬ (σ.1 22 x1.toNatClampNeg) = 0 → G_M_findWeights_346 l v n post σ x1) ∧ ((σ.1 22 x1.toNatClampNeg) = 0 → G_M_findWeights_117 l v n post σ x1 1 1))))) : G_M_findWeights_95 l v n post σ x1 := by
  refine g_iload_n d_M_findWeights_95 1 rfl rfl ?_
  refine g_aload_n d_M_findWeights_96 0 rfl rfl ?_
  refine g_getV (x := .int (σ.1 0 2)) d_M_findWeights_97 fl_M_179 (by decide) rfl rfl rfl ?_
  refine g_icmp_ge (tgt := 352) d_M_findWeights_100 rfl (fun hc => ?_) (fun hc => ?_)
  · have h := h.1 hc
    exact g_vret d_M_findWeights_352 rfl h
  · have h := h.2 hc
    refine g_aload_n d_M_findWeights_103 0 rfl rfl ?_
    refine g_getV (x := .ref (v.2.2 22)) d_M_findWeights_104 fl_M_78 (by decide) rfl rfl rfl ?_
    refine g_iload_n d_M_findWeights_107 1 rfl rfl ?_
    have hi1 := h.1
    have h := h.2
    refine g_zald (x := σ.1 22 x1.toNatClampNeg) d_M_findWeights_108 (by decide) rfl hi1 rfl ?_
    refine g_if_ne (tgt := 346) d_M_findWeights_109 rfl (fun hc => ?_) (fun hc => ?_)
    · have h := h.1 hc
      exact h
    · have h := h.2 hc
      refine g_lconst d_M_findWeights_112 (x := 1) (by decide) ?_
      refine g_lstore_n (L' := [(2, .long 1), (0, .ref (v.2.2 0)), (1, .int x1)]) d_M_findWeights_113 rfl (by decide) rfl ?_
      refine g_iconst d_M_findWeights_114 (x := 1) (by decide) ?_
      refine g_istore (L' := [(4, .int 1), (2, .long 1), (0, .ref (v.2.2 0)), (1, .int x1)]) d_M_findWeights_115 (by decide) rfl ?_
      exact g_sub [2, 3, 1, 0] rfl h
set_option maxRecDepth 20000 in
set_option maxHeartbeats 1000000 in
theorem T_M_findWeights_117 {l : Launch} {v : gs_V} {n : Nat} {post : gs_S → Prop} {σ : gs_S} {x1 : Int32} {x2 : Int64} {x4 : Int32} (h : (((σ.1 0 2) ≤ x4 → G_M_findWeights_231 l v n post σ x1 x2 0) ∧ (¬ (σ.1 0 2) ≤ x4 → vp_in x4 4 ∧ (((σ.1 22 x4.toNatClampNeg) = 0 → G_M_findWeights_152 l v n post σ x1 x2 x4 1) ∧ (¬ (σ.1 22 x4.toNatClampNeg) = 0 → vp_in ((4 * x4) + x4) 16 ∧ G_M_findWeights_152 l v n post σ x1 x2 x4 (σ.2.1 23 (((4 * x4) + x4).toNatClampNeg))))))) : G_M_findWeights_117 l v n post σ x1 x2 x4 := by
  refine g_iload d_M_findWeights_117 3 rfl ?_
  refine g_aload_n d_M_findWeights_119 0 rfl rfl ?_
  refine g_getV (x := .int (σ.1 0 2)) d_M_findWeights_120 fl_M_179 (by decide) rfl rfl rfl ?_
  refine g_icmp_ge (tgt := 228) d_M_findWeights_123 rfl (fun hc => ?_) (fun hc => ?_)
  · have h := h.1 hc
    refine g_iconst d_M_findWeights_228 (x := 0) (by decide) ?_
    refine g_istore (L' := [(4, .int 0), (0, .ref (v.2.2 0)), (1, .int x1), (2, .long x2)]) d_M_findWeights_229 (by decide) rfl ?_
    exact g_sub [1, 2, 3, 0] rfl h
  · have h := h.2 hc
    refine g_aload_n d_M_findWeights_126 0 rfl rfl ?_
    refine g_getV (x := .ref (v.2.2 22)) d_M_findWeights_127 fl_M_78 (by decide) rfl rfl rfl ?_
    refine g_iload d_M_findWeights_130 3 rfl ?_
    have hi1 := h.1
    have h := h.2
    refine g_zald (x := σ.1 22 x4.toNatClampNeg) d_M_findWeights_132 (by decide) rfl hi1 rfl ?_
    refine g_if_eq (tgt := 151) d_M_findWeights_133 rfl (fun hc => ?_) (fun hc => ?_)
    · have h := h.1 hc
      refine g_lconst d_M_findWeights_151 (x := 1) (by decide) ?_
      exact h
    · have h := h.2 hc
      refine g_aload_n d_M_findWeights_136 0 rfl rfl ?_
      refine g_getV (x := .ref (v.2.2 23)) d_M_findWeights_137 fl_M_81 (by decide) rfl rfl rfl ?_
      refine g_iconst d_M_findWeights_140 (x := 4) (by decide) ?_
      refine g_iload d_M_findWeights_141 3 rfl ?_
      refine g_imul d_M_findWeights_143 ?_
      refine g_iload d_M_findWeights_144 3 rfl ?_
      refine g_iadd d_M_findWeights_146 ?_
      have hi2 := h.1
      have h := h.2
      refine g_lald (x := σ.2.1 23 (((4 * x4) + x4).toNatClampNeg)) d_M_findWeights_147 (by decide) rfl hi2 rfl ?_
      refine g_goto (tgt := 152) d_M_findWeights_148 rfl ?_
      exact h
set_option maxRecDepth 20000 in
set_option maxHeartbeats 1000000 in
theorem T_M_findWeights_152 {l : Launch} {v : gs_V} {n : Nat} {post : gs_S → Prop} {σ : gs_S} {x1 : Int32} {x2 : Int64} {x4 : Int32} {s0 : Int64} (h : vp_in x4 4 ∧ (((σ.1 22 x4.toNatClampNeg) = 0 → G_M_findWeights_179 l v n post σ x1 x2 x4 s0 0) ∧ (¬ (σ.1 22 x4.toNatClampNeg) = 0 → vp_in ((4 * x4) + x1) 16 ∧ G_M_findWeights_179 l v n post σ x1 x2 x4 s0 (σ.2.1 23 (((4 * x4) + x1).toNatClampNeg))))) : G_M_findWeights_152 l v n post σ x1 x2 x4 s0 := by
  refine g_lstore (L' := [(5, .long s0), (0, .ref (v.2.2 0)), (1, .int x1), (2, .long x2), (4, .int x4)]) d_M_findWeights_152 (by decide) rfl ?_
  refine g_aload_n d_M_findWeights_154 1 rfl rfl ?_
  refine g_getV (x := .ref (v.2.2 22)) d_M_findWeights_155 fl_M_78 (by decide) rfl rfl rfl ?_
  refine g_iload d_M_findWeights_158 4 rfl ?_
  have hi1 := h.1
  have h := h.2
  refine g_zald (x := σ.1 22 x4.toNatClampNeg) d_M_findWeights_160 (by decide) rfl hi1 rfl ?_
  refine g_if_eq (tgt := 178) d_M_findWeights_161 rfl (fun hc => ?_) (fun hc => ?_)
  · have h := h.1 hc
    refine g_lconst d_M_findWeights_178 (x := 0) (by decide) ?_
    exact g_sub [1, 2, 3, 4, 0] rfl h
  · have h := h.2 hc
    refine g_aload_n d_M_findWeights_164 1 rfl rfl ?_
    refine g_getV (x := .ref (v.2.2 23)) d_M_findWeights_165 fl_M_81 (by decide) rfl rfl rfl ?_
    refine g_iconst d_M_findWeights_168 (x := 4) (by decide) ?_
    refine g_iload d_M_findWeights_169 4 rfl ?_
    refine g_imul d_M_findWeights_171 ?_
    refine g_iload_n d_M_findWeights_172 2 rfl rfl ?_
    refine g_iadd d_M_findWeights_173 ?_
    have hi2 := h.1
    have h := h.2
    refine g_lald (x := σ.2.1 23 (((4 * x4) + x1).toNatClampNeg)) d_M_findWeights_174 (by decide) rfl hi2 rfl ?_
    refine g_goto (tgt := 179) d_M_findWeights_175 rfl ?_
    exact g_sub [1, 2, 3, 4, 0] rfl h
set_option maxRecDepth 20000 in
set_option maxHeartbeats 1000000 in
theorem T_M_findWeights_179 {l : Launch} {v : gs_V} {n : Nat} {post : gs_S → Prop} {σ : gs_S} {x1 : Int32} {x2 : Int64} {x4 : Int32} {x5 : Int64} {s0 : Int64} (h : gM l v lyM 33 me_M_divisor n [.long x5, .long s0] σ (qL v lyM 33 (fun r1 σ1 => ¬ r1 = 0 ∧ ((0 ≤ (x5 / r1) → G_M_findWeights_208 l v n post σ1 x1 x2 x4 (x5 / r1)) ∧ (¬ 0 ≤ (x5 / r1) → G_M_findWeights_208 l v n post σ1 x1 x2 x4 (-(x5 / r1))))))) : G_M_findWeights_179 l v n post σ x1 x2 x4 x5 s0 := by
  refine g_lstore (L' := [(7, .long s0), (0, .ref (v.2.2 0)), (1, .int x1), (2, .long x2), (4, .int x4), (5, .long x5)]) d_M_findWeights_179 (by decide) rfl ?_
  refine g_lload d_M_findWeights_181 5 rfl ?_
  refine g_lload d_M_findWeights_183 5 rfl ?_
  refine g_lload d_M_findWeights_185 0 rfl ?_
  refine g_callSl (av := [.long x5, .long s0]) (rest := [.long x5]) d_M_findWeights_187 Y_M_divisor lk_M_248 I_M_divisor rfl (Nat.le_of_ble_eq_true rfl) rfl h (fun r1 σ1 h => ?_)
  refine g_ldiv d_M_findWeights_190 h.1 ?_
  have h := h.2
  refine g_lstore (L' := [(9, .long (x5 / r1)), (7, .long s0), (0, .ref (v.2.2 0)), (1, .int x1), (2, .long x2), (4, .int x4), (5, .long x5)]) d_M_findWeights_191 (by decide) rfl ?_
  refine g_lload d_M_findWeights_193 0 rfl ?_
  refine g_lconst d_M_findWeights_195 (x := 0) (by decide) ?_
  refine g_lcmp_ge (tgt := 206) d_M_findWeights_196 d_M_findWeights_197 rfl (fun hc => ?_) (fun hc => ?_)
  · have h := h.1 hc
    refine g_lload d_M_findWeights_206 0 rfl ?_
    exact g_sub [2, 3, 4, 5] rfl h
  · have h := h.2 hc
    refine g_lload d_M_findWeights_200 0 rfl ?_
    refine g_lneg d_M_findWeights_202 ?_
    refine g_goto (tgt := 208) d_M_findWeights_203 rfl ?_
    exact g_sub [2, 3, 4, 5] rfl h
set_option maxRecDepth 20000 in
set_option maxHeartbeats 1000000 in
theorem T_M_findWeights_208 {l : Launch} {v : gs_V} {n : Nat} {post : gs_S → Prop} {σ : gs_S} {x1 : Int32} {x2 : Int64} {x4 : Int32} {s0 : Int64} (h : gM l v lyM 33 me_M_divisor n [.long x2, .long s0] σ (qL v lyM 33 (fun r1 σ1 => ¬ r1 = 0 ∧ G_M_findWeights_117 l v n post σ1 x1 ((x2 / r1) * s0) (x4 + 1)))) : G_M_findWeights_208 l v n post σ x1 x2 x4 s0 := by
  refine g_lstore (L' := [(9, .long s0), (0, .ref (v.2.2 0)), (1, .int x1), (2, .long x2), (4, .int x4)]) d_M_findWeights_208 (by decide) rfl ?_
  refine g_lload_n d_M_findWeights_210 3 rfl rfl ?_
  refine g_lload_n d_M_findWeights_211 3 rfl rfl ?_
  refine g_lload d_M_findWeights_212 0 rfl ?_
  refine g_callSl (av := [.long x2, .long s0]) (rest := [.long x2]) d_M_findWeights_214 Y_M_divisor lk_M_248 I_M_divisor rfl (Nat.le_of_ble_eq_true rfl) rfl h (fun r1 σ1 h => ?_)
  refine g_ldiv d_M_findWeights_217 h.1 ?_
  have h := h.2
  refine g_lload d_M_findWeights_218 0 rfl ?_
  refine g_lmul d_M_findWeights_220 ?_
  refine g_lstore_n (L' := [(2, .long ((x2 / r1) * s0)), (9, .long s0), (0, .ref (v.2.2 0)), (1, .int x1), (4, .int x4)]) d_M_findWeights_221 rfl (by decide) rfl ?_
  refine g_iinc (L' := [(4, .int (x4 + 1)), (2, .long ((x2 / r1) * s0)), (9, .long s0), (0, .ref (v.2.2 0)), (1, .int x1)]) d_M_findWeights_222 4 rfl (by rfl) (by decide) rfl ?_
  refine g_goto (tgt := 117) d_M_findWeights_225 rfl ?_
  exact g_sub [3, 4, 1, 0] rfl h
set_option maxRecDepth 20000 in
set_option maxHeartbeats 1000000 in
theorem T_M_findWeights_231 {l : Launch} {v : gs_V} {n : Nat} {post : gs_S → Prop} {σ : gs_S} {x1 : Int32} {x2 : Int64} {x4 : Int32} (h : ((4 ≤ x4 → G_M_findWeights_346 l v n post (gs_pI σ 0 36 ((σ.1 0 36) + 1)) x1) ∧ (¬ 4 ≤ x4 → ((x4 ≤ 0 → G_M_findWeights_265 l v n post σ x1 x2 x4) ∧ (¬ x4 ≤ 0 → (((σ.1 0 2) ≤ x4 → G_M_findWeights_265 l v n post σ x1 x2 x4) ∧ (¬ (σ.1 0 2) ≤ x4 → vp_in x4 4 ∧ (((σ.1 22 x4.toNatClampNeg) = 0 → G_M_findWeights_265 l v n post σ x1 x2 x4) ∧ (¬ (σ.1 22 x4.toNatClampNeg) = 0 → G_M_findWeights_266 l v n post σ x1 x2 x4 1))))))))) : G_M_findWeights_231 l v n post σ x1 x2 x4 := by
  refine g_iload d_M_findWeights_231 3 rfl ?_
  refine g_iconst d_M_findWeights_233 (x := 4) (by decide) ?_
  refine g_icmp_ge (tgt := 336) d_M_findWeights_234 rfl (fun hc => ?_) (fun hc => ?_)
  · have h := h.1 hc
    refine g_aload_n d_M_findWeights_336 0 rfl rfl ?_
    refine g_dup d_M_findWeights_337 rfl ?_
    refine g_getV (x := .int (σ.1 0 36)) d_M_findWeights_338 fl_M_255 (by decide) rfl rfl rfl ?_
    refine g_iconst d_M_findWeights_341 (x := 1) (by decide) ?_
    refine g_iadd d_M_findWeights_342 ?_
    refine g_putI d_M_findWeights_343 fp_M_255 (by decide) rfl rfl ⟨rfl, rfl⟩ ?_
    exact g_sub [0, 1] rfl h
  · have h := h.2 hc
    refine g_iload d_M_findWeights_237 3 rfl ?_
    refine g_if_le (tgt := 265) d_M_findWeights_239 rfl (fun hc => ?_) (fun hc => ?_)
    · have h := h.1 hc
      exact h
    · have h := h.2 hc
      refine g_iload d_M_findWeights_242 3 rfl ?_
      refine g_aload_n d_M_findWeights_244 0 rfl rfl ?_
      refine g_getV (x := .int (σ.1 0 2)) d_M_findWeights_245 fl_M_179 (by decide) rfl rfl rfl ?_
      refine g_icmp_ge (tgt := 265) d_M_findWeights_248 rfl (fun hc => ?_) (fun hc => ?_)
      · have h := h.1 hc
        exact h
      · have h := h.2 hc
        refine g_aload_n d_M_findWeights_251 0 rfl rfl ?_
        refine g_getV (x := .ref (v.2.2 22)) d_M_findWeights_252 fl_M_78 (by decide) rfl rfl rfl ?_
        refine g_iload d_M_findWeights_255 3 rfl ?_
        have hi1 := h.1
        have h := h.2
        refine g_zald (x := σ.1 22 x4.toNatClampNeg) d_M_findWeights_257 (by decide) rfl hi1 rfl ?_
        refine g_if_eq (tgt := 265) d_M_findWeights_258 rfl (fun hc => ?_) (fun hc => ?_)
        · have h := h.1 hc
          exact h
        · have h := h.2 hc
          refine g_iconst d_M_findWeights_261 (x := 1) (by decide) ?_
          refine g_goto (tgt := 266) d_M_findWeights_262 rfl ?_
          exact h
set_option maxRecDepth 20000 in
set_option maxHeartbeats 1000000 in
theorem T_M_findWeights_265 {l : Launch} {v : gs_V} {n : Nat} {post : gs_S → Prop} {σ : gs_S} {x1 : Int32} {x2 : Int64} {x4 : Int32} (h : G_M_findWeights_266 l v n post σ x1 x2 x4 0) : G_M_findWeights_265 l v n post σ x1 x2 x4 := by
  refine g_iconst d_M_findWeights_265 (x := 0) (by decide) ?_
  exact h
set_option maxRecDepth 20000 in
set_option maxHeartbeats 1000000 in
theorem T_M_findWeights_266 {l : Launch} {v : gs_V} {n : Nat} {post : gs_S → Prop} {σ : gs_S} {x1 : Int32} {x2 : Int64} {x4 : Int32} {s0 : Int32} (h : ((¬ x4 = x1 → ((s0 = 0 → G_M_findWeights_329 l v n post σ x1 x2 x4 0 ((4 * (σ.1 0 36)) + x4)) ∧ (¬ s0 = 0 → vp_in ((4 * x4) + x1) 16 ∧ vp_in ((4 * x4) + x4) 16 ∧ ¬ (σ.2.1 23 (((4 * x4) + x4).toNatClampNeg)) = 0 ∧ G_M_findWeights_329 l v n post σ x1 x2 x4 ((((-(σ.2.1 23 (((4 * x4) + x1).toNatClampNeg))) * x2) / (σ.2.1 23 (((4 * x4) + x4).toNatClampNeg))).toInt32) ((4 * (σ.1 0 36)) + x4)))) ∧ (x4 = x1 → G_M_findWeights_329 l v n post σ x1 x2 x4 x2.toInt32 ((4 * (σ.1 0 36)) + x4)))) : G_M_findWeights_266 l v n post σ x1 x2 x4 s0 := by
  refine g_istore (L' := [(5, .int s0), (0, .ref (v.2.2 0)), (1, .int x1), (2, .long x2), (4, .int x4)]) d_M_findWeights_266 (by decide) rfl ?_
  refine g_aload_n d_M_findWeights_268 1 rfl rfl ?_
  refine g_getV (x := .ref (v.2.2 21)) d_M_findWeights_269 fl_M_75 (by decide) rfl rfl rfl ?_
  refine g_iconst d_M_findWeights_272 (x := 4) (by decide) ?_
  refine g_aload_n d_M_findWeights_273 1 rfl rfl ?_
  refine g_getV (x := .int (σ.1 0 36)) d_M_findWeights_274 fl_M_255 (by decide) rfl rfl rfl ?_
  refine g_imul d_M_findWeights_277 ?_
  refine g_iload d_M_findWeights_278 4 rfl ?_
  refine g_iadd d_M_findWeights_280 ?_
  refine g_iload d_M_findWeights_281 4 rfl ?_
  refine g_iload_n d_M_findWeights_283 2 rfl rfl ?_
  refine g_icmp_ne (tgt := 292) d_M_findWeights_284 rfl (fun hc => ?_) (fun hc => ?_)
  · have h := h.1 hc
    refine g_iload d_M_findWeights_292 0 rfl ?_
    refine g_if_eq (tgt := 328) d_M_findWeights_294 rfl (fun hc => ?_) (fun hc => ?_)
    · have h := h.1 hc
      refine g_iconst d_M_findWeights_328 (x := 0) (by decide) ?_
      exact g_sub [1, 2, 3, 4] rfl h
    · have h := h.2 hc
      refine g_aload_n d_M_findWeights_297 1 rfl rfl ?_
      refine g_getV (x := .ref (v.2.2 23)) d_M_findWeights_298 fl_M_81 (by decide) rfl rfl rfl ?_
      refine g_iconst d_M_findWeights_301 (x := 4) (by decide) ?_
      refine g_iload d_M_findWeights_302 4 rfl ?_
      refine g_imul d_M_findWeights_304 ?_
      refine g_iload_n d_M_findWeights_305 2 rfl rfl ?_
      refine g_iadd d_M_findWeights_306 ?_
      have hi1 := h.1
      have h := h.2
      refine g_lald (x := σ.2.1 23 (((4 * x4) + x1).toNatClampNeg)) d_M_findWeights_307 (by decide) rfl hi1 rfl ?_
      refine g_lneg d_M_findWeights_308 ?_
      refine g_lload_n d_M_findWeights_309 3 rfl rfl ?_
      refine g_lmul d_M_findWeights_310 ?_
      refine g_aload_n d_M_findWeights_311 1 rfl rfl ?_
      refine g_getV (x := .ref (v.2.2 23)) d_M_findWeights_312 fl_M_81 (by decide) rfl rfl rfl ?_
      refine g_iconst d_M_findWeights_315 (x := 4) (by decide) ?_
      refine g_iload d_M_findWeights_316 4 rfl ?_
      refine g_imul d_M_findWeights_318 ?_
      refine g_iload d_M_findWeights_319 4 rfl ?_
      refine g_iadd d_M_findWeights_321 ?_
      have hi2 := h.1
      have h := h.2
      refine g_lald (x := σ.2.1 23 (((4 * x4) + x4).toNatClampNeg)) d_M_findWeights_322 (by decide) rfl hi2 rfl ?_
      refine g_ldiv d_M_findWeights_323 h.1 ?_
      have h := h.2
      refine g_l2i d_M_findWeights_324 ?_
      refine g_goto (tgt := 329) d_M_findWeights_325 rfl ?_
      exact g_sub [1, 2, 3, 4] rfl h
  · have h := h.2 hc
    refine g_lload_n d_M_findWeights_287 3 rfl rfl ?_
    refine g_l2i d_M_findWeights_288 ?_
    refine g_goto (tgt := 329) d_M_findWeights_289 rfl ?_
    exact g_sub [1, 2, 3, 4] rfl h
set_option maxRecDepth 20000 in
set_option maxHeartbeats 1000000 in
theorem T_M_findWeights_329 {l : Launch} {v : gs_V} {n : Nat} {post : gs_S → Prop} {σ : gs_S} {x1 : Int32} {x2 : Int64} {x4 : Int32} {s0 : Int32} {s1 : Int32} (h : vp_in s1 16 ∧ G_M_findWeights_231 l v n post (gs_pI σ 21 s1.toNatClampNeg s0) x1 x2 (x4 + 1)) : G_M_findWeights_329 l v n post σ x1 x2 x4 s0 s1 := by
  have hi1 := h.1
  have h := h.2
  refine g_iast d_M_findWeights_329 (by decide) rfl hi1 ?_
  refine g_iinc (L' := [(4, .int (x4 + 1)), (0, .ref (v.2.2 0)), (1, .int x1), (2, .long x2)]) d_M_findWeights_330 3 rfl (by rfl) (by decide) rfl ?_
  refine g_goto (tgt := 231) d_M_findWeights_333 rfl ?_
  exact g_sub [1, 2, 3, 0] rfl h
set_option maxRecDepth 20000 in
set_option maxHeartbeats 1000000 in
theorem T_M_findWeights_346 {l : Launch} {v : gs_V} {n : Nat} {post : gs_S → Prop} {σ : gs_S} {x1 : Int32} (h : G_M_findWeights_95 l v n post σ (x1 + 1)) : G_M_findWeights_346 l v n post σ x1 := by
  refine g_iinc (L' := [(1, .int (x1 + 1)), (0, .ref (v.2.2 0))]) d_M_findWeights_346 1 rfl (by rfl) (by decide) rfl ?_
  refine g_goto (tgt := 95) d_M_findWeights_349 rfl ?_
  exact g_sub [1, 0] rfl h
theorem E_M_findWeights {l : Launch} {v : gs_V} {n : Nat} {post : gs_S → Prop} {σ : gs_S} (h : G_M_findWeights_0 l v n post σ) : gM l v lyM 33 me_M_findWeights (n + 1) [.ref (v.2.2 0)] σ (qV v lyM 33 post) := gM_of (by decide +kernel) (Nat.le_of_ble_eq_true rfl) h
/-! LineRulesModel.fresh -/
theorem d_M_fresh_0 : decode me_M_fresh.2.1 0 = .ok (.aload_n 0, 1) := by decide +kernel
theorem d_M_fresh_1 : decode me_M_fresh.2.1 1 = .ok (.getfield 35, 3) := by decide +kernel
theorem d_M_fresh_4 : decode me_M_fresh.2.1 4 = .ok (.iload_n 1, 1) := by decide +kernel
theorem d_M_fresh_5 : decode me_M_fresh.2.1 5 = .ok (.iconst 0, 1) := by decide +kernel
theorem d_M_fresh_6 : decode me_M_fresh.2.1 6 = .ok (.iastore, 1) := by decide +kernel
theorem d_M_fresh_7 : decode me_M_fresh.2.1 7 = .ok (.aload_n 0, 1) := by decide +kernel
theorem d_M_fresh_8 : decode me_M_fresh.2.1 8 = .ok (.getfield 41, 3) := by decide +kernel
theorem d_M_fresh_11 : decode me_M_fresh.2.1 11 = .ok (.iload_n 1, 1) := by decide +kernel
theorem d_M_fresh_12 : decode me_M_fresh.2.1 12 = .ok (.iconst 0, 1) := by decide +kernel
theorem d_M_fresh_13 : decode me_M_fresh.2.1 13 = .ok (.bastore, 1) := by decide +kernel
theorem d_M_fresh_14 : decode me_M_fresh.2.1 14 = .ok (.aload_n 0, 1) := by decide +kernel
theorem d_M_fresh_15 : decode me_M_fresh.2.1 15 = .ok (.getfield 48, 3) := by decide +kernel
theorem d_M_fresh_18 : decode me_M_fresh.2.1 18 = .ok (.iload_n 1, 1) := by decide +kernel
theorem d_M_fresh_19 : decode me_M_fresh.2.1 19 = .ok (.iconst 0, 1) := by decide +kernel
theorem d_M_fresh_20 : decode me_M_fresh.2.1 20 = .ok (.iastore, 1) := by decide +kernel
theorem d_M_fresh_21 : decode me_M_fresh.2.1 21 = .ok (.aload_n 0, 1) := by decide +kernel
theorem d_M_fresh_22 : decode me_M_fresh.2.1 22 = .ok (.getfield 54, 3) := by decide +kernel
theorem d_M_fresh_25 : decode me_M_fresh.2.1 25 = .ok (.iload_n 1, 1) := by decide +kernel
theorem d_M_fresh_26 : decode me_M_fresh.2.1 26 = .ok (.iconst 0, 1) := by decide +kernel
theorem d_M_fresh_27 : decode me_M_fresh.2.1 27 = .ok (.iastore, 1) := by decide +kernel
theorem d_M_fresh_28 : decode me_M_fresh.2.1 28 = .ok (.aload_n 0, 1) := by decide +kernel
theorem d_M_fresh_29 : decode me_M_fresh.2.1 29 = .ok (.getfield 60, 3) := by decide +kernel
theorem d_M_fresh_32 : decode me_M_fresh.2.1 32 = .ok (.iload_n 1, 1) := by decide +kernel
theorem d_M_fresh_33 : decode me_M_fresh.2.1 33 = .ok (.iconst 0, 1) := by decide +kernel
theorem d_M_fresh_34 : decode me_M_fresh.2.1 34 = .ok (.bastore, 1) := by decide +kernel
theorem d_M_fresh_35 : decode me_M_fresh.2.1 35 = .ok (.aload_n 0, 1) := by decide +kernel
theorem d_M_fresh_36 : decode me_M_fresh.2.1 36 = .ok (.getfield 66, 3) := by decide +kernel
theorem d_M_fresh_39 : decode me_M_fresh.2.1 39 = .ok (.iload_n 1, 1) := by decide +kernel
theorem d_M_fresh_40 : decode me_M_fresh.2.1 40 = .ok (.iconst 0, 1) := by decide +kernel
theorem d_M_fresh_41 : decode me_M_fresh.2.1 41 = .ok (.bastore, 1) := by decide +kernel
theorem d_M_fresh_42 : decode me_M_fresh.2.1 42 = .ok (.return_, 1) := by decide +kernel
abbrev G_M_fresh_0 (l : Launch) (v : gs_V) (n : Nat) (post : gs_S → Prop) (σ : gs_S) (x1 : Int32) : Prop := gG l v lyM 33 me_M_fresh n (qV v lyM 33 post) 0 [(0, .ref (v.2.2 0)), (1, .int x1)] [] σ
set_option maxRecDepth 20000 in
set_option maxHeartbeats 1000000 in
theorem T_M_fresh_0 {l : Launch} {v : gs_V} {n : Nat} {post : gs_S → Prop} {σ : gs_S} {x1 : Int32} (h : vp_in x1 6 ∧ vp_in x1 6 ∧ vp_in x1 6 ∧ vp_in x1 6 ∧ vp_in x1 6 ∧ vp_in x1 6 ∧ post (gs_pI (gs_pI (gs_pI (gs_pI (gs_pI (gs_pI σ 8 x1.toNatClampNeg 0) 10 x1.toNatClampNeg 0) 12 x1.toNatClampNeg 0) 14 x1.toNatClampNeg 0) 16 x1.toNatClampNeg 0) 18 x1.toNatClampNeg 0)) : G_M_fresh_0 l v n post σ x1 := by
  refine g_aload_n d_M_fresh_0 0 rfl rfl ?_
  refine g_getV (x := .ref (v.2.2 8)) d_M_fresh_1 fl_M_35 (by decide) rfl rfl rfl ?_
  refine g_iload_n d_M_fresh_4 1 rfl rfl ?_
  refine g_iconst d_M_fresh_5 (x := 0) (by decide) ?_
  have hi1 := h.1
  have h := h.2
  refine g_iast d_M_fresh_6 (by decide) rfl hi1 ?_
  refine g_aload_n d_M_fresh_7 0 rfl rfl ?_
  refine g_getV (x := .ref (v.2.2 10)) d_M_fresh_8 fl_M_41 (by decide) rfl rfl rfl ?_
  refine g_iload_n d_M_fresh_11 1 rfl rfl ?_
  refine g_iconst d_M_fresh_12 (x := 0) (by decide) ?_
  have hi2 := h.1
  have h := h.2
  refine g_zast d_M_fresh_13 (by decide) rfl hi2 ?_
  refine g_aload_n d_M_fresh_14 0 rfl rfl ?_
  refine g_getV (x := .ref (v.2.2 12)) d_M_fresh_15 fl_M_48 (by decide) rfl rfl rfl ?_
  refine g_iload_n d_M_fresh_18 1 rfl rfl ?_
  refine g_iconst d_M_fresh_19 (x := 0) (by decide) ?_
  have hi3 := h.1
  have h := h.2
  refine g_iast d_M_fresh_20 (by decide) rfl hi3 ?_
  refine g_aload_n d_M_fresh_21 0 rfl rfl ?_
  refine g_getV (x := .ref (v.2.2 14)) d_M_fresh_22 fl_M_54 (by decide) rfl rfl rfl ?_
  refine g_iload_n d_M_fresh_25 1 rfl rfl ?_
  refine g_iconst d_M_fresh_26 (x := 0) (by decide) ?_
  have hi4 := h.1
  have h := h.2
  refine g_iast d_M_fresh_27 (by decide) rfl hi4 ?_
  refine g_aload_n d_M_fresh_28 0 rfl rfl ?_
  refine g_getV (x := .ref (v.2.2 16)) d_M_fresh_29 fl_M_60 (by decide) rfl rfl rfl ?_
  refine g_iload_n d_M_fresh_32 1 rfl rfl ?_
  refine g_iconst d_M_fresh_33 (x := 0) (by decide) ?_
  have hi5 := h.1
  have h := h.2
  refine g_zast d_M_fresh_34 (by decide) rfl hi5 ?_
  refine g_aload_n d_M_fresh_35 0 rfl rfl ?_
  refine g_getV (x := .ref (v.2.2 18)) d_M_fresh_36 fl_M_66 (by decide) rfl rfl rfl ?_
  refine g_iload_n d_M_fresh_39 1 rfl rfl ?_
  refine g_iconst d_M_fresh_40 (x := 0) (by decide) ?_
  have hi6 := h.1
  have h := h.2
  refine g_zast d_M_fresh_41 (by decide) rfl hi6 ?_
  exact g_vret d_M_fresh_42 rfl h
theorem E_M_fresh {l : Launch} {v : gs_V} {n : Nat} {post : gs_S → Prop} {σ : gs_S} {x1 : Int32} (h : G_M_fresh_0 l v n post σ x1) : gM l v lyM 33 me_M_fresh (n + 1) [.ref (v.2.2 0), .int x1] σ (qV v lyM 33 post) := gM_of (by decide +kernel) (Nat.le_of_ble_eq_true rfl) h
/-! LineRulesModel.get -/
theorem d_M_get_0 : decode me_M_get.2.1 0 = .ok (.iload_n 1, 1) := by decide +kernel
theorem d_M_get_1 : decode me_M_get.2.1 1 = .ok (.ifCond .lt 20, 3) := by decide +kernel
theorem d_M_get_4 : decode me_M_get.2.1 4 = .ok (.iload_n 1, 1) := by decide +kernel
theorem d_M_get_5 : decode me_M_get.2.1 5 = .ok (.aload_n 0, 1) := by decide +kernel
theorem d_M_get_6 : decode me_M_get.2.1 6 = .ok (.getfield 16, 3) := by decide +kernel
theorem d_M_get_9 : decode me_M_get.2.1 9 = .ok (.if_icmp .ge 12, 3) := by decide +kernel
theorem d_M_get_12 : decode me_M_get.2.1 12 = .ok (.aload_n 0, 1) := by decide +kernel
theorem d_M_get_13 : decode me_M_get.2.1 13 = .ok (.getfield 20, 3) := by decide +kernel
theorem d_M_get_16 : decode me_M_get.2.1 16 = .ok (.iload_n 1, 1) := by decide +kernel
theorem d_M_get_17 : decode me_M_get.2.1 17 = .ok (.iaload, 1) := by decide +kernel
theorem d_M_get_18 : decode me_M_get.2.1 18 = .ok (.goto 4, 3) := by decide +kernel
theorem d_M_get_21 : decode me_M_get.2.1 21 = .ok (.iconst (-1), 1) := by decide +kernel
theorem d_M_get_22 : decode me_M_get.2.1 22 = .ok (.ireturn, 1) := by decide +kernel
abbrev G_M_get_0 (l : Launch) (v : gs_V) (n : Nat) (post : Int32 → gs_S → Prop) (σ : gs_S) (x1 : Int32) : Prop := gG l v lyM 33 me_M_get n (qI v lyM 33 post) 0 [(0, .ref (v.2.2 0)), (1, .int x1)] [] σ
abbrev G_M_get_21 (l : Launch) (v : gs_V) (n : Nat) (post : Int32 → gs_S → Prop) (σ : gs_S) : Prop := gG l v lyM 33 me_M_get n (qI v lyM 33 post) 21 [] [] σ
abbrev G_M_get_22 (l : Launch) (v : gs_V) (n : Nat) (post : Int32 → gs_S → Prop) (σ : gs_S) (s0 : Int32) : Prop := gG l v lyM 33 me_M_get n (qI v lyM 33 post) 22 [] [.int s0] σ
set_option maxRecDepth 20000 in
set_option maxHeartbeats 1000000 in
theorem T_M_get_0 {l : Launch} {v : gs_V} {n : Nat} {post : Int32 → gs_S → Prop} {σ : gs_S} {x1 : Int32} (h : ((x1 < 0 → G_M_get_21 l v n post σ) ∧ (¬ x1 < 0 → (((σ.1 0 7) ≤ x1 → G_M_get_21 l v n post σ) ∧ (¬ (σ.1 0 7) ≤ x1 → vp_in x1 64 ∧ G_M_get_22 l v n post σ (σ.1 3 x1.toNatClampNeg)))))) : G_M_get_0 l v n post σ x1 := by
  refine g_iload_n d_M_get_0 1 rfl rfl ?_
  refine g_if_lt (tgt := 21) d_M_get_1 rfl (fun hc => ?_) (fun hc => ?_)
  · have h := h.1 hc
    exact g_sub [] rfl h
  · have h := h.2 hc
    refine g_iload_n d_M_get_4 1 rfl rfl ?_
    refine g_aload_n d_M_get_5 0 rfl rfl ?_
    refine g_getV (x := .int (σ.1 0 7)) d_M_get_6 fl_M_16 (by decide) rfl rfl rfl ?_
    refine g_icmp_ge (tgt := 21) d_M_get_9 rfl (fun hc => ?_) (fun hc => ?_)
    · have h := h.1 hc
      exact g_sub [] rfl h
    · have h := h.2 hc
      refine g_aload_n d_M_get_12 0 rfl rfl ?_
      refine g_getV (x := .ref (v.2.2 3)) d_M_get_13 fl_M_20 (by decide) rfl rfl rfl ?_
      refine g_iload_n d_M_get_16 1 rfl rfl ?_
      have hi1 := h.1
      have h := h.2
      refine g_iald (x := σ.1 3 x1.toNatClampNeg) d_M_get_17 (by decide) rfl hi1 rfl ?_
      refine g_goto (tgt := 22) d_M_get_18 rfl ?_
      exact g_sub [] rfl h
set_option maxRecDepth 20000 in
set_option maxHeartbeats 1000000 in
theorem T_M_get_21 {l : Launch} {v : gs_V} {n : Nat} {post : Int32 → gs_S → Prop} {σ : gs_S} (h : G_M_get_22 l v n post σ ((-1))) : G_M_get_21 l v n post σ := by
  refine g_iconst d_M_get_21 (x := (-1)) (by decide) ?_
  exact h
set_option maxRecDepth 20000 in
set_option maxHeartbeats 1000000 in
theorem T_M_get_22 {l : Launch} {v : gs_V} {n : Nat} {post : Int32 → gs_S → Prop} {σ : gs_S} {s0 : Int32} (h : post s0 σ) : G_M_get_22 l v n post σ s0 := by
  exact g_iret d_M_get_22 rfl h
theorem E_M_get {l : Launch} {v : gs_V} {n : Nat} {post : Int32 → gs_S → Prop} {σ : gs_S} {x1 : Int32} (h : G_M_get_0 l v n post σ x1) : gM l v lyM 33 me_M_get (n + 1) [.ref (v.2.2 0), .int x1] σ (qI v lyM 33 post) := gM_of (by decide +kernel) (Nat.le_of_ble_eq_true rfl) h
/-! LineRulesModel.goesOn -/
theorem d_M_goesOn_0 : decode me_M_goesOn.2.1 0 = .ok (.iload_n 1, 1) := by decide +kernel
theorem d_M_goesOn_1 : decode me_M_goesOn.2.1 1 = .ok (.bipush 43, 2) := by decide +kernel
theorem d_M_goesOn_3 : decode me_M_goesOn.2.1 3 = .ok (.if_icmp .eq 9, 3) := by decide +kernel
theorem d_M_goesOn_6 : decode me_M_goesOn.2.1 6 = .ok (.iload_n 1, 1) := by decide +kernel
theorem d_M_goesOn_7 : decode me_M_goesOn.2.1 7 = .ok (.bipush 45, 2) := by decide +kernel
theorem d_M_goesOn_9 : decode me_M_goesOn.2.1 9 = .ok (.if_icmp .ne 30, 3) := by decide +kernel
theorem d_M_goesOn_12 : decode me_M_goesOn.2.1 12 = .ok (.aload_n 0, 1) := by decide +kernel
theorem d_M_goesOn_13 : decode me_M_goesOn.2.1 13 = .ok (.invokevirtual 125, 3) := by decide +kernel
theorem d_M_goesOn_16 : decode me_M_goesOn.2.1 16 = .ok (.aload_n 0, 1) := by decide +kernel
theorem d_M_goesOn_17 : decode me_M_goesOn.2.1 17 = .ok (.getfield 48, 3) := by decide +kernel
theorem d_M_goesOn_20 : decode me_M_goesOn.2.1 20 = .ok (.aload_n 0, 1) := by decide +kernel
theorem d_M_goesOn_21 : decode me_M_goesOn.2.1 21 = .ok (.getfield 115, 3) := by decide +kernel
theorem d_M_goesOn_24 : decode me_M_goesOn.2.1 24 = .ok (.iload_n 1, 1) := by decide +kernel
theorem d_M_goesOn_25 : decode me_M_goesOn.2.1 25 = .ok (.bipush 43, 2) := by decide +kernel
theorem d_M_goesOn_27 : decode me_M_goesOn.2.1 27 = .ok (.if_icmp .ne 7, 3) := by decide +kernel
theorem d_M_goesOn_30 : decode me_M_goesOn.2.1 30 = .ok (.iconst 1, 1) := by decide +kernel
theorem d_M_goesOn_31 : decode me_M_goesOn.2.1 31 = .ok (.goto 4, 3) := by decide +kernel
theorem d_M_goesOn_34 : decode me_M_goesOn.2.1 34 = .ok (.iconst 2, 1) := by decide +kernel
theorem d_M_goesOn_35 : decode me_M_goesOn.2.1 35 = .ok (.iastore, 1) := by decide +kernel
theorem d_M_goesOn_36 : decode me_M_goesOn.2.1 36 = .ok (.goto 232, 3) := by decide +kernel
theorem d_M_goesOn_39 : decode me_M_goesOn.2.1 39 = .ok (.iload_n 1, 1) := by decide +kernel
theorem d_M_goesOn_40 : decode me_M_goesOn.2.1 40 = .ok (.bipush 61, 2) := by decide +kernel
theorem d_M_goesOn_42 : decode me_M_goesOn.2.1 42 = .ok (.if_icmp .eq 9, 3) := by decide +kernel
theorem d_M_goesOn_45 : decode me_M_goesOn.2.1 45 = .ok (.iload_n 1, 1) := by decide +kernel
theorem d_M_goesOn_46 : decode me_M_goesOn.2.1 46 = .ok (.bipush 60, 2) := by decide +kernel
theorem d_M_goesOn_48 : decode me_M_goesOn.2.1 48 = .ok (.if_icmp .ne 53, 3) := by decide +kernel
theorem d_M_goesOn_51 : decode me_M_goesOn.2.1 51 = .ok (.aload_n 0, 1) := by decide +kernel
theorem d_M_goesOn_52 : decode me_M_goesOn.2.1 52 = .ok (.getfield 54, 3) := by decide +kernel
theorem d_M_goesOn_55 : decode me_M_goesOn.2.1 55 = .ok (.aload_n 0, 1) := by decide +kernel
theorem d_M_goesOn_56 : decode me_M_goesOn.2.1 56 = .ok (.getfield 115, 3) := by decide +kernel
theorem d_M_goesOn_59 : decode me_M_goesOn.2.1 59 = .ok (.iaload, 1) := by decide +kernel
theorem d_M_goesOn_60 : decode me_M_goesOn.2.1 60 = .ok (.ifCond .le 5, 3) := by decide +kernel
theorem d_M_goesOn_63 : decode me_M_goesOn.2.1 63 = .ok (.iconst 0, 1) := by decide +kernel
theorem d_M_goesOn_64 : decode me_M_goesOn.2.1 64 = .ok (.ireturn, 1) := by decide +kernel
theorem d_M_goesOn_65 : decode me_M_goesOn.2.1 65 = .ok (.aload_n 0, 1) := by decide +kernel
theorem d_M_goesOn_66 : decode me_M_goesOn.2.1 66 = .ok (.getfield 51, 3) := by decide +kernel
theorem d_M_goesOn_69 : decode me_M_goesOn.2.1 69 = .ok (.aload_n 0, 1) := by decide +kernel
theorem d_M_goesOn_70 : decode me_M_goesOn.2.1 70 = .ok (.getfield 115, 3) := by decide +kernel
theorem d_M_goesOn_73 : decode me_M_goesOn.2.1 73 = .ok (.aload_n 0, 1) := by decide +kernel
theorem d_M_goesOn_74 : decode me_M_goesOn.2.1 74 = .ok (.invokevirtual 128, 3) := by decide +kernel
theorem d_M_goesOn_77 : decode me_M_goesOn.2.1 77 = .ok (.iastore, 1) := by decide +kernel
theorem d_M_goesOn_78 : decode me_M_goesOn.2.1 78 = .ok (.aload_n 0, 1) := by decide +kernel
theorem d_M_goesOn_79 : decode me_M_goesOn.2.1 79 = .ok (.getfield 54, 3) := by decide +kernel
theorem d_M_goesOn_82 : decode me_M_goesOn.2.1 82 = .ok (.aload_n 0, 1) := by decide +kernel
theorem d_M_goesOn_83 : decode me_M_goesOn.2.1 83 = .ok (.getfield 115, 3) := by decide +kernel
theorem d_M_goesOn_86 : decode me_M_goesOn.2.1 86 = .ok (.iload_n 1, 1) := by decide +kernel
theorem d_M_goesOn_87 : decode me_M_goesOn.2.1 87 = .ok (.bipush 61, 2) := by decide +kernel
theorem d_M_goesOn_89 : decode me_M_goesOn.2.1 89 = .ok (.if_icmp .ne 7, 3) := by decide +kernel
theorem d_M_goesOn_92 : decode me_M_goesOn.2.1 92 = .ok (.iconst 1, 1) := by decide +kernel
theorem d_M_goesOn_93 : decode me_M_goesOn.2.1 93 = .ok (.goto 4, 3) := by decide +kernel
theorem d_M_goesOn_96 : decode me_M_goesOn.2.1 96 = .ok (.iconst 2, 1) := by decide +kernel
theorem d_M_goesOn_97 : decode me_M_goesOn.2.1 97 = .ok (.iastore, 1) := by decide +kernel
theorem d_M_goesOn_98 : decode me_M_goesOn.2.1 98 = .ok (.goto 170, 3) := by decide +kernel
theorem d_M_goesOn_101 : decode me_M_goesOn.2.1 101 = .ok (.iload_n 1, 1) := by decide +kernel
theorem d_M_goesOn_102 : decode me_M_goesOn.2.1 102 = .ok (.bipush 38, 2) := by decide +kernel
theorem d_M_goesOn_104 : decode me_M_goesOn.2.1 104 = .ok (.if_icmp .ne 10, 3) := by decide +kernel
theorem d_M_goesOn_107 : decode me_M_goesOn.2.1 107 = .ok (.aload_n 0, 1) := by decide +kernel
theorem d_M_goesOn_108 : decode me_M_goesOn.2.1 108 = .ok (.invokevirtual 132, 3) := by decide +kernel
theorem d_M_goesOn_111 : decode me_M_goesOn.2.1 111 = .ok (.goto 157, 3) := by decide +kernel
theorem d_M_goesOn_114 : decode me_M_goesOn.2.1 114 = .ok (.iload_n 1, 1) := by decide +kernel
theorem d_M_goesOn_115 : decode me_M_goesOn.2.1 115 = .ok (.bipush 124, 2) := by decide +kernel
theorem d_M_goesOn_117 : decode me_M_goesOn.2.1 117 = .ok (.if_icmp .ne 10, 3) := by decide +kernel
theorem d_M_goesOn_120 : decode me_M_goesOn.2.1 120 = .ok (.aload_n 0, 1) := by decide +kernel
theorem d_M_goesOn_121 : decode me_M_goesOn.2.1 121 = .ok (.invokevirtual 135, 3) := by decide +kernel
theorem d_M_goesOn_124 : decode me_M_goesOn.2.1 124 = .ok (.goto 144, 3) := by decide +kernel
theorem d_M_goesOn_127 : decode me_M_goesOn.2.1 127 = .ok (.iload_n 1, 1) := by decide +kernel
theorem d_M_goesOn_128 : decode me_M_goesOn.2.1 128 = .ok (.bipush 63, 2) := by decide +kernel
theorem d_M_goesOn_130 : decode me_M_goesOn.2.1 130 = .ok (.if_icmp .ne 25, 3) := by decide +kernel
theorem d_M_goesOn_133 : decode me_M_goesOn.2.1 133 = .ok (.aload_n 0, 1) := by decide +kernel
theorem d_M_goesOn_134 : decode me_M_goesOn.2.1 134 = .ok (.getfield 115, 3) := by decide +kernel
theorem d_M_goesOn_137 : decode me_M_goesOn.2.1 137 = .ok (.iconst 4, 1) := by decide +kernel
theorem d_M_goesOn_138 : decode me_M_goesOn.2.1 138 = .ok (.if_icmp .ne 5, 3) := by decide +kernel
theorem d_M_goesOn_141 : decode me_M_goesOn.2.1 141 = .ok (.iconst 0, 1) := by decide +kernel
theorem d_M_goesOn_142 : decode me_M_goesOn.2.1 142 = .ok (.ireturn, 1) := by decide +kernel
theorem d_M_goesOn_143 : decode me_M_goesOn.2.1 143 = .ok (.aload_n 0, 1) := by decide +kernel
theorem d_M_goesOn_144 : decode me_M_goesOn.2.1 144 = .ok (.iconst 2, 1) := by decide +kernel
theorem d_M_goesOn_145 : decode me_M_goesOn.2.1 145 = .ok (.aload_n 0, 1) := by decide +kernel
theorem d_M_goesOn_146 : decode me_M_goesOn.2.1 146 = .ok (.invokevirtual 138, 3) := by decide +kernel
theorem d_M_goesOn_149 : decode me_M_goesOn.2.1 149 = .ok (.invokevirtual 151, 3) := by decide +kernel
theorem d_M_goesOn_152 : decode me_M_goesOn.2.1 152 = .ok (.goto 116, 3) := by decide +kernel
theorem d_M_goesOn_155 : decode me_M_goesOn.2.1 155 = .ok (.iload_n 1, 1) := by decide +kernel
theorem d_M_goesOn_156 : decode me_M_goesOn.2.1 156 = .ok (.bipush 58, 2) := by decide +kernel
theorem d_M_goesOn_158 : decode me_M_goesOn.2.1 158 = .ok (.if_icmp .ne 54, 3) := by decide +kernel
theorem d_M_goesOn_161 : decode me_M_goesOn.2.1 161 = .ok (.aload_n 0, 1) := by decide +kernel
theorem d_M_goesOn_162 : decode me_M_goesOn.2.1 162 = .ok (.invokevirtual 155, 3) := by decide +kernel
theorem d_M_goesOn_165 : decode me_M_goesOn.2.1 165 = .ok (.istore_n 2, 1) := by decide +kernel
theorem d_M_goesOn_166 : decode me_M_goesOn.2.1 166 = .ok (.aload_n 0, 1) := by decide +kernel
theorem d_M_goesOn_167 : decode me_M_goesOn.2.1 167 = .ok (.getfield 26, 3) := by decide +kernel
theorem d_M_goesOn_170 : decode me_M_goesOn.2.1 170 = .ok (.aload_n 0, 1) := by decide +kernel
theorem d_M_goesOn_171 : decode me_M_goesOn.2.1 171 = .ok (.getfield 115, 3) := by decide +kernel
theorem d_M_goesOn_174 : decode me_M_goesOn.2.1 174 = .ok (.iaload, 1) := by decide +kernel
theorem d_M_goesOn_175 : decode me_M_goesOn.2.1 175 = .ok (.iconst 2, 1) := by decide +kernel
theorem d_M_goesOn_176 : decode me_M_goesOn.2.1 176 = .ok (.if_icmp .eq 5, 3) := by decide +kernel
theorem d_M_goesOn_179 : decode me_M_goesOn.2.1 179 = .ok (.iconst 0, 1) := by decide +kernel
theorem d_M_goesOn_180 : decode me_M_goesOn.2.1 180 = .ok (.ireturn, 1) := by decide +kernel
theorem d_M_goesOn_181 : decode me_M_goesOn.2.1 181 = .ok (.aload_n 0, 1) := by decide +kernel
theorem d_M_goesOn_182 : decode me_M_goesOn.2.1 182 = .ok (.getfield 32, 3) := by decide +kernel
theorem d_M_goesOn_185 : decode me_M_goesOn.2.1 185 = .ok (.aload_n 0, 1) := by decide +kernel
theorem d_M_goesOn_186 : decode me_M_goesOn.2.1 186 = .ok (.getfield 115, 3) := by decide +kernel
theorem d_M_goesOn_189 : decode me_M_goesOn.2.1 189 = .ok (.iload_n 2, 1) := by decide +kernel
theorem d_M_goesOn_190 : decode me_M_goesOn.2.1 190 = .ok (.iastore, 1) := by decide +kernel
theorem d_M_goesOn_191 : decode me_M_goesOn.2.1 191 = .ok (.aload_n 0, 1) := by decide +kernel
theorem d_M_goesOn_192 : decode me_M_goesOn.2.1 192 = .ok (.getfield 26, 3) := by decide +kernel
theorem d_M_goesOn_195 : decode me_M_goesOn.2.1 195 = .ok (.aload_n 0, 1) := by decide +kernel
theorem d_M_goesOn_196 : decode me_M_goesOn.2.1 196 = .ok (.getfield 115, 3) := by decide +kernel
theorem d_M_goesOn_199 : decode me_M_goesOn.2.1 199 = .ok (.iconst 3, 1) := by decide +kernel
theorem d_M_goesOn_200 : decode me_M_goesOn.2.1 200 = .ok (.iastore, 1) := by decide +kernel
theorem d_M_goesOn_201 : decode me_M_goesOn.2.1 201 = .ok (.aload_n 0, 1) := by decide +kernel
theorem d_M_goesOn_202 : decode me_M_goesOn.2.1 202 = .ok (.aload_n 0, 1) := by decide +kernel
theorem d_M_goesOn_203 : decode me_M_goesOn.2.1 203 = .ok (.getfield 115, 3) := by decide +kernel
theorem d_M_goesOn_206 : decode me_M_goesOn.2.1 206 = .ok (.invokevirtual 118, 3) := by decide +kernel
theorem d_M_goesOn_209 : decode me_M_goesOn.2.1 209 = .ok (.goto 59, 3) := by decide +kernel
theorem d_M_goesOn_212 : decode me_M_goesOn.2.1 212 = .ok (.iload_n 1, 1) := by decide +kernel
theorem d_M_goesOn_213 : decode me_M_goesOn.2.1 213 = .ok (.bipush 41, 2) := by decide +kernel
theorem d_M_goesOn_215 : decode me_M_goesOn.2.1 215 = .ok (.if_icmp .ne 41, 3) := by decide +kernel
theorem d_M_goesOn_218 : decode me_M_goesOn.2.1 218 = .ok (.aload_n 0, 1) := by decide +kernel
theorem d_M_goesOn_219 : decode me_M_goesOn.2.1 219 = .ok (.invokevirtual 155, 3) := by decide +kernel
theorem d_M_goesOn_222 : decode me_M_goesOn.2.1 222 = .ok (.istore_n 2, 1) := by decide +kernel
theorem d_M_goesOn_223 : decode me_M_goesOn.2.1 223 = .ok (.aload_n 0, 1) := by decide +kernel
theorem d_M_goesOn_224 : decode me_M_goesOn.2.1 224 = .ok (.getfield 26, 3) := by decide +kernel
theorem d_M_goesOn_227 : decode me_M_goesOn.2.1 227 = .ok (.aload_n 0, 1) := by decide +kernel
theorem d_M_goesOn_228 : decode me_M_goesOn.2.1 228 = .ok (.getfield 115, 3) := by decide +kernel
theorem d_M_goesOn_231 : decode me_M_goesOn.2.1 231 = .ok (.iaload, 1) := by decide +kernel
theorem d_M_goesOn_232 : decode me_M_goesOn.2.1 232 = .ok (.iconst 1, 1) := by decide +kernel
theorem d_M_goesOn_233 : decode me_M_goesOn.2.1 233 = .ok (.if_icmp .eq 5, 3) := by decide +kernel
theorem d_M_goesOn_236 : decode me_M_goesOn.2.1 236 = .ok (.iconst 0, 1) := by decide +kernel
theorem d_M_goesOn_237 : decode me_M_goesOn.2.1 237 = .ok (.ireturn, 1) := by decide +kernel
theorem d_M_goesOn_238 : decode me_M_goesOn.2.1 238 = .ok (.aload_n 0, 1) := by decide +kernel
theorem d_M_goesOn_239 : decode me_M_goesOn.2.1 239 = .ok (.dup, 1) := by decide +kernel
theorem d_M_goesOn_240 : decode me_M_goesOn.2.1 240 = .ok (.getfield 115, 3) := by decide +kernel
theorem d_M_goesOn_243 : decode me_M_goesOn.2.1 243 = .ok (.iconst 1, 1) := by decide +kernel
theorem d_M_goesOn_244 : decode me_M_goesOn.2.1 244 = .ok (.isub, 1) := by decide +kernel
theorem d_M_goesOn_245 : decode me_M_goesOn.2.1 245 = .ok (.putfield 115, 3) := by decide +kernel
theorem d_M_goesOn_248 : decode me_M_goesOn.2.1 248 = .ok (.aload_n 0, 1) := by decide +kernel
theorem d_M_goesOn_249 : decode me_M_goesOn.2.1 249 = .ok (.iload_n 2, 1) := by decide +kernel
theorem d_M_goesOn_250 : decode me_M_goesOn.2.1 250 = .ok (.invokevirtual 141, 3) := by decide +kernel
theorem d_M_goesOn_253 : decode me_M_goesOn.2.1 253 = .ok (.goto 15, 3) := by decide +kernel
theorem d_M_goesOn_256 : decode me_M_goesOn.2.1 256 = .ok (.iload_n 1, 1) := by decide +kernel
theorem d_M_goesOn_257 : decode me_M_goesOn.2.1 257 = .ok (.bipush 42, 2) := by decide +kernel
theorem d_M_goesOn_259 : decode me_M_goesOn.2.1 259 = .ok (.if_icmp .ne 7, 3) := by decide +kernel
theorem d_M_goesOn_262 : decode me_M_goesOn.2.1 262 = .ok (.iconst 1, 1) := by decide +kernel
theorem d_M_goesOn_263 : decode me_M_goesOn.2.1 263 = .ok (.goto 4, 3) := by decide +kernel
theorem d_M_goesOn_266 : decode me_M_goesOn.2.1 266 = .ok (.iconst 0, 1) := by decide +kernel
theorem d_M_goesOn_267 : decode me_M_goesOn.2.1 267 = .ok (.ireturn, 1) := by decide +kernel
theorem d_M_goesOn_268 : decode me_M_goesOn.2.1 268 = .ok (.iconst 1, 1) := by decide +kernel
theorem d_M_goesOn_269 : decode me_M_goesOn.2.1 269 = .ok (.ireturn, 1) := by decide +kernel
abbrev G_M_goesOn_0 (l : Launch) (v : gs_V) (n : Nat) (post : Int32 → gs_S → Prop) (σ : gs_S) (x1 : Int32) : Prop := gG l v lyM 33 me_M_goesOn n (qI v lyM 33 post) 0 [(0, .ref (v.2.2 0)), (1, .int x1)] [] σ
abbrev G_M_goesOn_12 (l : Launch) (v : gs_V) (n : Nat) (post : Int32 → gs_S → Prop) (σ : gs_S) (x1 : Int32) : Prop := gG l v lyM 33 me_M_goesOn n (qI v lyM 33 post) 12 [(0, .ref (v.2.2 0)), (1, .int x1)] [] σ
abbrev G_M_goesOn_35 (l : Launch) (v : gs_V) (n : Nat) (post : Int32 → gs_S → Prop) (σ : gs_S) (s0 : Int32) (s1 : Int32) : Prop := gG l v lyM 33 me_M_goesOn n (qI v lyM 33 post) 35 [] [.int s0, .int s1, .ref (v.2.2 12)] σ
abbrev G_M_goesOn_51 (l : Launch) (v : gs_V) (n : Nat) (post : Int32 → gs_S → Prop) (σ : gs_S) (x1 : Int32) : Prop := gG l v lyM 33 me_M_goesOn n (qI v lyM 33 post) 51 [(0, .ref (v.2.2 0)), (1, .int x1)] [] σ
abbrev G_M_goesOn_97 (l : Launch) (v : gs_V) (n : Nat) (post : Int32 → gs_S → Prop) (σ : gs_S) (s0 : Int32) (s1 : Int32) : Prop := gG l v lyM 33 me_M_goesOn n (qI v lyM 33 post) 97 [] [.int s0, .int s1, .ref (v.2.2 14)] σ
abbrev G_M_goesOn_267 (l : Launch) (v : gs_V) (n : Nat) (post : Int32 → gs_S → Prop) (σ : gs_S) (s0 : Int32) : Prop := gG l v lyM 33 me_M_goesOn n (qI v lyM 33 post) 267 [] [.int s0] σ
abbrev G_M_goesOn_268 (l : Launch) (v : gs_V) (n : Nat) (post : Int32 → gs_S → Prop) (σ : gs_S) : Prop := gG l v lyM 33 me_M_goesOn n (qI v lyM 33 post) 268 [] [] σ
set_option maxRecDepth 20000 in
set_option maxHeartbeats 1000000 in
theorem T_M_goesOn_0 {l : Launch} {v : gs_V} {n : Nat} {post : Int32 → gs_S → Prop} {σ : gs_S} {x1 : Int32} (h : ((x1 = 43 → G_M_goesOn_12 l v n post σ x1) ∧ (¬ x1 = 43 → ((¬ x1 = 45 → ((x1 = 61 → G_M_goesOn_51 l v n post σ x1) ∧ (¬ x1 = 61 → ((¬ x1 = 60 → ((¬ x1 = 38 → ((¬ x1 = 124 → ((¬ x1 = 63 → ((¬ x1 = 58 → ((¬ x1 = 41 → ((¬ x1 = 42 → G_M_goesOn_267 l v n post σ 0) ∧ (x1 = 42 → G_M_goesOn_267 l v n post σ 1))) ∧ (x1 = 41 → gM l v lyM 33 me_M_endChoice n [.ref (v.2.2 0)] σ (qI v lyM 33 (fun r1 σ1 => vp_in (σ1.1 0 13) 6 ∧ (((σ1.1 5 ((σ1.1 0 13).toNatClampNeg)) = 1 → gM l v lyM 33 me_M_operand n [.ref (v.2.2 0), .int r1] (gs_pI σ1 0 13 ((σ1.1 0 13) - 1)) (qV v lyM 33 (fun σ3 => G_M_goesOn_268 l v n post σ3))) ∧ (¬ (σ1.1 5 ((σ1.1 0 13).toNatClampNeg)) = 1 → post 0 σ1))))))) ∧ (x1 = 58 → gM l v lyM 33 me_M_endChoice n [.ref (v.2.2 0)] σ (qI v lyM 33 (fun r4 σ4 => vp_in (σ4.1 0 13) 6 ∧ (((σ4.1 5 ((σ4.1 0 13).toNatClampNeg)) = 2 → vp_in (σ4.1 0 13) 6 ∧ vp_in (σ4.1 0 13) 6 ∧ gM l v lyM 33 me_M_fresh n [.ref (v.2.2 0), .int (σ4.1 0 13)] (gs_pI (gs_pI σ4 7 ((σ4.1 0 13).toNatClampNeg) r4) 5 ((σ4.1 0 13).toNatClampNeg) 3) (qV v lyM 33 (fun σ8 => G_M_goesOn_268 l v n post σ8))) ∧ (¬ (σ4.1 5 ((σ4.1 0 13).toNatClampNeg)) = 2 → post 0 σ4))))))) ∧ (x1 = 63 → ((¬ (σ.1 0 13) = 4 → gM l v lyM 33 me_M_endEither n [.ref (v.2.2 0)] σ (qI v lyM 33 (fun r9 σ9 => gM l v lyM 33 me_M_open n [.ref (v.2.2 0), .int 2, .int r9] σ9 (qV v lyM 33 (fun σ10 => G_M_goesOn_268 l v n post σ10))))) ∧ ((σ.1 0 13) = 4 → post 0 σ))))) ∧ (x1 = 124 → gM l v lyM 33 me_M_endBoth n [.ref (v.2.2 0)] σ (qV v lyM 33 (fun σ11 => G_M_goesOn_268 l v n post σ11))))) ∧ (x1 = 38 → gM l v lyM 33 me_M_endTest n [.ref (v.2.2 0)] σ (qV v lyM 33 (fun σ12 => G_M_goesOn_268 l v n post σ12))))) ∧ (x1 = 60 → G_M_goesOn_51 l v n post σ x1))))) ∧ (x1 = 45 → G_M_goesOn_12 l v n post σ x1))))) : G_M_goesOn_0 l v n post σ x1 := by
  refine g_iload_n d_M_goesOn_0 1 rfl rfl ?_
  refine g_bipush d_M_goesOn_1 (x := 43) (by decide) ?_
  refine g_icmp_eq (tgt := 12) d_M_goesOn_3 rfl (fun hc => ?_) (fun hc => ?_)
  · have h := h.1 hc
    exact h
  · have h := h.2 hc
    refine g_iload_n d_M_goesOn_6 1 rfl rfl ?_
    refine g_bipush d_M_goesOn_7 (x := 45) (by decide) ?_
    refine g_icmp_ne (tgt := 39) d_M_goesOn_9 rfl (fun hc => ?_) (fun hc => ?_)
    · have h := h.1 hc
      refine g_iload_n d_M_goesOn_39 1 rfl rfl ?_
      refine g_bipush d_M_goesOn_40 (x := 61) (by decide) ?_
      refine g_icmp_eq (tgt := 51) d_M_goesOn_42 rfl (fun hc => ?_) (fun hc => ?_)
      · have h := h.1 hc
        exact h
      · have h := h.2 hc
        refine g_iload_n d_M_goesOn_45 1 rfl rfl ?_
        refine g_bipush d_M_goesOn_46 (x := 60) (by decide) ?_
        refine g_icmp_ne (tgt := 101) d_M_goesOn_48 rfl (fun hc => ?_) (fun hc => ?_)
        · have h := h.1 hc
          refine g_iload_n d_M_goesOn_101 1 rfl rfl ?_
          refine g_bipush d_M_goesOn_102 (x := 38) (by decide) ?_
          refine g_icmp_ne (tgt := 114) d_M_goesOn_104 rfl (fun hc => ?_) (fun hc => ?_)
          · have h := h.1 hc
            refine g_iload_n d_M_goesOn_114 1 rfl rfl ?_
            refine g_bipush d_M_goesOn_115 (x := 124) (by decide) ?_
            refine g_icmp_ne (tgt := 127) d_M_goesOn_117 rfl (fun hc => ?_) (fun hc => ?_)
            · have h := h.1 hc
              refine g_iload_n d_M_goesOn_127 1 rfl rfl ?_
              refine g_bipush d_M_goesOn_128 (x := 63) (by decide) ?_
              refine g_icmp_ne (tgt := 155) d_M_goesOn_130 rfl (fun hc => ?_) (fun hc => ?_)
              · have h := h.1 hc
                refine g_iload_n d_M_goesOn_155 1 rfl rfl ?_
                refine g_bipush d_M_goesOn_156 (x := 58) (by decide) ?_
                refine g_icmp_ne (tgt := 212) d_M_goesOn_158 rfl (fun hc => ?_) (fun hc => ?_)
                · have h := h.1 hc
                  refine g_iload_n d_M_goesOn_212 1 rfl rfl ?_
                  refine g_bipush d_M_goesOn_213 (x := 41) (by decide) ?_
                  refine g_icmp_ne (tgt := 256) d_M_goesOn_215 rfl (fun hc => ?_) (fun hc => ?_)
                  · have h := h.1 hc
                    refine g_iload_n d_M_goesOn_256 1 rfl rfl ?_
                    refine g_bipush d_M_goesOn_257 (x := 42) (by decide) ?_
                    refine g_icmp_ne (tgt := 266) d_M_goesOn_259 rfl (fun hc => ?_) (fun hc => ?_)
                    · have h := h.1 hc
                      refine g_iconst d_M_goesOn_266 (x := 0) (by decide) ?_
                      exact g_sub [] rfl h
                    · have h := h.2 hc
                      refine g_iconst d_M_goesOn_262 (x := 1) (by decide) ?_
                      refine g_goto (tgt := 267) d_M_goesOn_263 rfl ?_
                      exact g_sub [] rfl h
                  · have h := h.2 hc
                    refine g_aload_n d_M_goesOn_218 0 rfl rfl ?_
                    refine g_callVi (av := []) (rest := []) d_M_goesOn_219 Y_M_endChoice lk_M_155 (by decide) rfl rfl I_M_endChoice rfl (Nat.le_of_ble_eq_true rfl) rfl h (fun r1 σ1 h => ?_)
                    refine g_istore_n (L' := [(2, .int r1), (0, .ref (v.2.2 0)), (1, .int x1)]) d_M_goesOn_222 rfl (by decide) rfl ?_
                    refine g_aload_n d_M_goesOn_223 1 rfl rfl ?_
                    refine g_getV (x := .ref (v.2.2 5)) d_M_goesOn_224 fl_M_26 (by decide) rfl rfl rfl ?_
                    refine g_aload_n d_M_goesOn_227 1 rfl rfl ?_
                    refine g_getV (x := .int (σ1.1 0 13)) d_M_goesOn_228 fl_M_115 (by decide) rfl rfl rfl ?_
                    have hi2 := h.1
                    have h := h.2
                    refine g_iald (x := σ1.1 5 ((σ1.1 0 13).toNatClampNeg)) d_M_goesOn_231 (by decide) rfl hi2 rfl ?_
                    refine g_iconst d_M_goesOn_232 (x := 1) (by decide) ?_
                    refine g_icmp_eq (tgt := 238) d_M_goesOn_233 rfl (fun hc => ?_) (fun hc => ?_)
                    · have h := h.1 hc
                      refine g_aload_n d_M_goesOn_238 1 rfl rfl ?_
                      refine g_dup d_M_goesOn_239 rfl ?_
                      refine g_getV (x := .int (σ1.1 0 13)) d_M_goesOn_240 fl_M_115 (by decide) rfl rfl rfl ?_
                      refine g_iconst d_M_goesOn_243 (x := 1) (by decide) ?_
                      refine g_isub d_M_goesOn_244 ?_
                      refine g_putI d_M_goesOn_245 fp_M_115 (by decide) rfl rfl ⟨rfl, rfl⟩ ?_
                      refine g_aload_n d_M_goesOn_248 1 rfl rfl ?_
                      refine g_iload_n d_M_goesOn_249 0 rfl rfl ?_
                      refine g_callVv (av := [.int r1]) (rest := []) d_M_goesOn_250 Y_M_operand lk_M_141 (by decide) rfl rfl I_M_operand rfl (Nat.le_of_ble_eq_true rfl) rfl h (fun σ3 h => ?_)
                      refine g_goto (tgt := 268) d_M_goesOn_253 rfl ?_
                      exact g_sub [] rfl h
                    · have h := h.2 hc
                      refine g_iconst d_M_goesOn_236 (x := 0) (by decide) ?_
                      exact g_zret d_M_goesOn_237 rfl rfl h
                · have h := h.2 hc
                  refine g_aload_n d_M_goesOn_161 0 rfl rfl ?_
                  refine g_callVi (av := []) (rest := []) d_M_goesOn_162 Y_M_endChoice lk_M_155 (by decide) rfl rfl I_M_endChoice rfl (Nat.le_of_ble_eq_true rfl) rfl h (fun r4 σ4 h => ?_)
                  refine g_istore_n (L' := [(2, .int r4), (0, .ref (v.2.2 0)), (1, .int x1)]) d_M_goesOn_165 rfl (by decide) rfl ?_
                  refine g_aload_n d_M_goesOn_166 1 rfl rfl ?_
                  refine g_getV (x := .ref (v.2.2 5)) d_M_goesOn_167 fl_M_26 (by decide) rfl rfl rfl ?_
                  refine g_aload_n d_M_goesOn_170 1 rfl rfl ?_
                  refine g_getV (x := .int (σ4.1 0 13)) d_M_goesOn_171 fl_M_115 (by decide) rfl rfl rfl ?_
                  have hi5 := h.1
                  have h := h.2
                  refine g_iald (x := σ4.1 5 ((σ4.1 0 13).toNatClampNeg)) d_M_goesOn_174 (by decide) rfl hi5 rfl ?_
                  refine g_iconst d_M_goesOn_175 (x := 2) (by decide) ?_
                  refine g_icmp_eq (tgt := 181) d_M_goesOn_176 rfl (fun hc => ?_) (fun hc => ?_)
                  · have h := h.1 hc
                    refine g_aload_n d_M_goesOn_181 1 rfl rfl ?_
                    refine g_getV (x := .ref (v.2.2 7)) d_M_goesOn_182 fl_M_32 (by decide) rfl rfl rfl ?_
                    refine g_aload_n d_M_goesOn_185 1 rfl rfl ?_
                    refine g_getV (x := .int (σ4.1 0 13)) d_M_goesOn_186 fl_M_115 (by decide) rfl rfl rfl ?_
                    refine g_iload_n d_M_goesOn_189 0 rfl rfl ?_
                    have hi6 := h.1
                    have h := h.2
                    refine g_iast d_M_goesOn_190 (by decide) rfl hi6 ?_
                    refine g_aload_n d_M_goesOn_191 1 rfl rfl ?_
                    refine g_getV (x := .ref (v.2.2 5)) d_M_goesOn_192 fl_M_26 (by decide) rfl rfl rfl ?_
                    refine g_aload_n d_M_goesOn_195 1 rfl rfl ?_
                    refine g_getV (x := .int (σ4.1 0 13)) d_M_goesOn_196 fl_M_115 (by decide) rfl rfl rfl ?_
                    refine g_iconst d_M_goesOn_199 (x := 3) (by decide) ?_
                    have hi7 := h.1
                    have h := h.2
                    refine g_iast d_M_goesOn_200 (by decide) rfl hi7 ?_
                    refine g_aload_n d_M_goesOn_201 1 rfl rfl ?_
                    refine g_aload_n d_M_goesOn_202 1 rfl rfl ?_
                    refine g_getV (x := .int (σ4.1 0 13)) d_M_goesOn_203 fl_M_115 (by decide) rfl rfl rfl ?_
                    refine g_callVv (av := [.int (σ4.1 0 13)]) (rest := []) d_M_goesOn_206 Y_M_fresh lk_M_118 (by decide) rfl rfl I_M_fresh rfl (Nat.le_of_ble_eq_true rfl) rfl h (fun σ8 h => ?_)
                    refine g_goto (tgt := 268) d_M_goesOn_209 rfl ?_
                    exact g_sub [] rfl h
                  · have h := h.2 hc
                    refine g_iconst d_M_goesOn_179 (x := 0) (by decide) ?_
                    exact g_zret d_M_goesOn_180 rfl rfl h
              · have h := h.2 hc
                refine g_aload_n d_M_goesOn_133 0 rfl rfl ?_
                refine g_getV (x := .int (σ.1 0 13)) d_M_goesOn_134 fl_M_115 (by decide) rfl rfl rfl ?_
                refine g_iconst d_M_goesOn_137 (x := 4) (by decide) ?_
                refine g_icmp_ne (tgt := 143) d_M_goesOn_138 rfl (fun hc => ?_) (fun hc => ?_)
                · have h := h.1 hc
                  refine g_aload_n d_M_goesOn_143 0 rfl rfl ?_
                  refine g_iconst d_M_goesOn_144 (x := 2) (by decide) ?_
                  refine g_aload_n d_M_goesOn_145 0 rfl rfl ?_
                  refine g_callVi (av := []) (rest := [.int 2, .ref (v.2.2 0)]) d_M_goesOn_146 Y_M_endEither lk_M_138 (by decide) rfl rfl I_M_endEither rfl (Nat.le_of_ble_eq_true rfl) rfl h (fun r9 σ9 h => ?_)
                  refine g_callVv (av := [.int 2, .int r9]) (rest := []) d_M_goesOn_149 Y_M_open lk_M_151 (by decide) rfl rfl I_M_open rfl (Nat.le_of_ble_eq_true rfl) rfl h (fun σ10 h => ?_)
                  refine g_goto (tgt := 268) d_M_goesOn_152 rfl ?_
                  exact g_sub [] rfl h
                · have h := h.2 hc
                  refine g_iconst d_M_goesOn_141 (x := 0) (by decide) ?_
                  exact g_zret d_M_goesOn_142 rfl rfl h
            · have h := h.2 hc
              refine g_aload_n d_M_goesOn_120 0 rfl rfl ?_
              refine g_callVv (av := []) (rest := []) d_M_goesOn_121 Y_M_endBoth lk_M_135 (by decide) rfl rfl I_M_endBoth rfl (Nat.le_of_ble_eq_true rfl) rfl h (fun σ11 h => ?_)
              refine g_goto (tgt := 268) d_M_goesOn_124 rfl ?_
              exact g_sub [] rfl h
          · have h := h.2 hc
            refine g_aload_n d_M_goesOn_107 0 rfl rfl ?_
            refine g_callVv (av := []) (rest := []) d_M_goesOn_108 Y_M_endTest lk_M_132 (by decide) rfl rfl I_M_endTest rfl (Nat.le_of_ble_eq_true rfl) rfl h (fun σ12 h => ?_)
            refine g_goto (tgt := 268) d_M_goesOn_111 rfl ?_
            exact g_sub [] rfl h
        · have h := h.2 hc
          exact h
    · have h := h.2 hc
      exact h
set_option maxRecDepth 20000 in
set_option maxHeartbeats 1000000 in
theorem T_M_goesOn_12 {l : Launch} {v : gs_V} {n : Nat} {post : Int32 → gs_S → Prop} {σ : gs_S} {x1 : Int32} (h : gM l v lyM 33 me_M_endProduct n [.ref (v.2.2 0)] σ (qV v lyM 33 (fun σ1 => ((¬ x1 = 43 → G_M_goesOn_35 l v n post σ1 2 (σ1.1 0 13)) ∧ (x1 = 43 → G_M_goesOn_35 l v n post σ1 1 (σ1.1 0 13)))))) : G_M_goesOn_12 l v n post σ x1 := by
  refine g_aload_n d_M_goesOn_12 0 rfl rfl ?_
  refine g_callVv (av := []) (rest := []) d_M_goesOn_13 Y_M_endProduct lk_M_125 (by decide) rfl rfl I_M_endProduct rfl (Nat.le_of_ble_eq_true rfl) rfl h (fun σ1 h => ?_)
  refine g_aload_n d_M_goesOn_16 0 rfl rfl ?_
  refine g_getV (x := .ref (v.2.2 12)) d_M_goesOn_17 fl_M_48 (by decide) rfl rfl rfl ?_
  refine g_aload_n d_M_goesOn_20 0 rfl rfl ?_
  refine g_getV (x := .int (σ1.1 0 13)) d_M_goesOn_21 fl_M_115 (by decide) rfl rfl rfl ?_
  refine g_iload_n d_M_goesOn_24 1 rfl rfl ?_
  refine g_bipush d_M_goesOn_25 (x := 43) (by decide) ?_
  refine g_icmp_ne (tgt := 34) d_M_goesOn_27 rfl (fun hc => ?_) (fun hc => ?_)
  · have h := h.1 hc
    refine g_iconst d_M_goesOn_34 (x := 2) (by decide) ?_
    exact g_sub [] rfl h
  · have h := h.2 hc
    refine g_iconst d_M_goesOn_30 (x := 1) (by decide) ?_
    refine g_goto (tgt := 35) d_M_goesOn_31 rfl ?_
    exact g_sub [] rfl h
set_option maxRecDepth 20000 in
set_option maxHeartbeats 1000000 in
theorem T_M_goesOn_35 {l : Launch} {v : gs_V} {n : Nat} {post : Int32 → gs_S → Prop} {σ : gs_S} {s0 : Int32} {s1 : Int32} (h : vp_in s1 6 ∧ G_M_goesOn_268 l v n post (gs_pI σ 12 s1.toNatClampNeg s0)) : G_M_goesOn_35 l v n post σ s0 s1 := by
  have hi1 := h.1
  have h := h.2
  refine g_iast d_M_goesOn_35 (by decide) rfl hi1 ?_
  refine g_goto (tgt := 268) d_M_goesOn_36 rfl ?_
  exact h
set_option maxRecDepth 20000 in
set_option maxHeartbeats 1000000 in
theorem T_M_goesOn_51 {l : Launch} {v : gs_V} {n : Nat} {post : Int32 → gs_S → Prop} {σ : gs_S} {x1 : Int32} (h : vp_in (σ.1 0 13) 6 ∧ (((σ.1 14 ((σ.1 0 13).toNatClampNeg)) ≤ 0 → gM l v lyM 33 me_M_endSum n [.ref (v.2.2 0)] σ (qI v lyM 33 (fun r2 σ2 => vp_in (σ.1 0 13) 6 ∧ ((¬ x1 = 61 → G_M_goesOn_97 l v n post (gs_pI σ2 13 ((σ.1 0 13).toNatClampNeg) r2) 2 (σ2.1 0 13)) ∧ (x1 = 61 → G_M_goesOn_97 l v n post (gs_pI σ2 13 ((σ.1 0 13).toNatClampNeg) r2) 1 (σ2.1 0 13)))))) ∧ (¬ (σ.1 14 ((σ.1 0 13).toNatClampNeg)) ≤ 0 → post 0 σ))) : G_M_goesOn_51 l v n post σ x1 := by
  refine g_aload_n d_M_goesOn_51 0 rfl rfl ?_
  refine g_getV (x := .ref (v.2.2 14)) d_M_goesOn_52 fl_M_54 (by decide) rfl rfl rfl ?_
  refine g_aload_n d_M_goesOn_55 0 rfl rfl ?_
  refine g_getV (x := .int (σ.1 0 13)) d_M_goesOn_56 fl_M_115 (by decide) rfl rfl rfl ?_
  have hi1 := h.1
  have h := h.2
  refine g_iald (x := σ.1 14 ((σ.1 0 13).toNatClampNeg)) d_M_goesOn_59 (by decide) rfl hi1 rfl ?_
  refine g_if_le (tgt := 65) d_M_goesOn_60 rfl (fun hc => ?_) (fun hc => ?_)
  · have h := h.1 hc
    refine g_aload_n d_M_goesOn_65 0 rfl rfl ?_
    refine g_getV (x := .ref (v.2.2 13)) d_M_goesOn_66 fl_M_51 (by decide) rfl rfl rfl ?_
    refine g_aload_n d_M_goesOn_69 0 rfl rfl ?_
    refine g_getV (x := .int (σ.1 0 13)) d_M_goesOn_70 fl_M_115 (by decide) rfl rfl rfl ?_
    refine g_aload_n d_M_goesOn_73 0 rfl rfl ?_
    refine g_callVi (av := []) (rest := [.int (σ.1 0 13), .ref (v.2.2 13)]) d_M_goesOn_74 Y_M_endSum lk_M_128 (by decide) rfl rfl I_M_endSum rfl (Nat.le_of_ble_eq_true rfl) rfl h (fun r2 σ2 h => ?_)
    have hi3 := h.1
    have h := h.2
    refine g_iast d_M_goesOn_77 (by decide) rfl hi3 ?_
    refine g_aload_n d_M_goesOn_78 0 rfl rfl ?_
    refine g_getV (x := .ref (v.2.2 14)) d_M_goesOn_79 fl_M_54 (by decide) rfl rfl rfl ?_
    refine g_aload_n d_M_goesOn_82 0 rfl rfl ?_
    refine g_getV (x := .int (σ2.1 0 13)) d_M_goesOn_83 fl_M_115 (by decide) rfl rfl rfl ?_
    refine g_iload_n d_M_goesOn_86 1 rfl rfl ?_
    refine g_bipush d_M_goesOn_87 (x := 61) (by decide) ?_
    refine g_icmp_ne (tgt := 96) d_M_goesOn_89 rfl (fun hc => ?_) (fun hc => ?_)
    · have h := h.1 hc
      refine g_iconst d_M_goesOn_96 (x := 2) (by decide) ?_
      exact g_sub [] rfl h
    · have h := h.2 hc
      refine g_iconst d_M_goesOn_92 (x := 1) (by decide) ?_
      refine g_goto (tgt := 97) d_M_goesOn_93 rfl ?_
      exact g_sub [] rfl h
  · have h := h.2 hc
    refine g_iconst d_M_goesOn_63 (x := 0) (by decide) ?_
    exact g_zret d_M_goesOn_64 rfl rfl h
set_option maxRecDepth 20000 in
set_option maxHeartbeats 1000000 in
theorem T_M_goesOn_97 {l : Launch} {v : gs_V} {n : Nat} {post : Int32 → gs_S → Prop} {σ : gs_S} {s0 : Int32} {s1 : Int32} (h : vp_in s1 6 ∧ G_M_goesOn_268 l v n post (gs_pI σ 14 s1.toNatClampNeg s0)) : G_M_goesOn_97 l v n post σ s0 s1 := by
  have hi1 := h.1
  have h := h.2
  refine g_iast d_M_goesOn_97 (by decide) rfl hi1 ?_
  refine g_goto (tgt := 268) d_M_goesOn_98 rfl ?_
  exact h
set_option maxRecDepth 20000 in
set_option maxHeartbeats 1000000 in
theorem T_M_goesOn_267 {l : Launch} {v : gs_V} {n : Nat} {post : Int32 → gs_S → Prop} {σ : gs_S} {s0 : Int32} (h : narrow .boolean (.int s0) = .int s0 ∧ post s0 σ) : G_M_goesOn_267 l v n post σ s0 := by
  exact g_zret d_M_goesOn_267 rfl h.1 h.2
set_option maxRecDepth 20000 in
set_option maxHeartbeats 1000000 in
theorem T_M_goesOn_268 {l : Launch} {v : gs_V} {n : Nat} {post : Int32 → gs_S → Prop} {σ : gs_S} (h : post 1 σ) : G_M_goesOn_268 l v n post σ := by
  refine g_iconst d_M_goesOn_268 (x := 1) (by decide) ?_
  exact g_zret d_M_goesOn_269 rfl rfl h
theorem E_M_goesOn {l : Launch} {v : gs_V} {n : Nat} {post : Int32 → gs_S → Prop} {σ : gs_S} {x1 : Int32} (h : G_M_goesOn_0 l v n post σ x1) : gM l v lyM 33 me_M_goesOn (n + 1) [.ref (v.2.2 0), .int x1] σ (qI v lyM 33 post) := gM_of (by decide +kernel) (Nat.le_of_ble_eq_true rfl) h
/-! LineRulesModel.injective -/
theorem d_M_injective_0 : decode me_M_injective.2.1 0 = .ok (.aload_n 0, 1) := by decide +kernel
theorem d_M_injective_1 : decode me_M_injective.2.1 1 = .ok (.getfield 179, 3) := by decide +kernel
theorem d_M_injective_4 : decode me_M_injective.2.1 4 = .ok (.ifCond .ne 5, 3) := by decide +kernel
theorem d_M_injective_7 : decode me_M_injective.2.1 7 = .ok (.iconst (-1), 1) := by decide +kernel
theorem d_M_injective_8 : decode me_M_injective.2.1 8 = .ok (.ireturn, 1) := by decide +kernel
theorem d_M_injective_9 : decode me_M_injective.2.1 9 = .ok (.aload_n 0, 1) := by decide +kernel
theorem d_M_injective_10 : decode me_M_injective.2.1 10 = .ok (.getfield 197, 3) := by decide +kernel
theorem d_M_injective_13 : decode me_M_injective.2.1 13 = .ok (.ifCond .ne 44, 3) := by decide +kernel
theorem d_M_injective_16 : decode me_M_injective.2.1 16 = .ok (.aload_n 0, 1) := by decide +kernel
theorem d_M_injective_17 : decode me_M_injective.2.1 17 = .ok (.getfield 182, 3) := by decide +kernel
theorem d_M_injective_20 : decode me_M_injective.2.1 20 = .ok (.iconst 1, 1) := by decide +kernel
theorem d_M_injective_21 : decode me_M_injective.2.1 21 = .ok (.if_icmp .ne 10, 3) := by decide +kernel
theorem d_M_injective_24 : decode me_M_injective.2.1 24 = .ok (.aload_n 0, 1) := by decide +kernel
theorem d_M_injective_25 : decode me_M_injective.2.1 25 = .ok (.invokevirtual 223, 3) := by decide +kernel
theorem d_M_injective_28 : decode me_M_injective.2.1 28 = .ok (.goto 15, 3) := by decide +kernel
theorem d_M_injective_31 : decode me_M_injective.2.1 31 = .ok (.aload_n 0, 1) := by decide +kernel
theorem d_M_injective_32 : decode me_M_injective.2.1 32 = .ok (.invokevirtual 230, 3) := by decide +kernel
theorem d_M_injective_35 : decode me_M_injective.2.1 35 = .ok (.ifCond .ne 7, 3) := by decide +kernel
theorem d_M_injective_38 : decode me_M_injective.2.1 38 = .ok (.iconst 1, 1) := by decide +kernel
theorem d_M_injective_39 : decode me_M_injective.2.1 39 = .ok (.goto 4, 3) := by decide +kernel
theorem d_M_injective_42 : decode me_M_injective.2.1 42 = .ok (.iconst 0, 1) := by decide +kernel
theorem d_M_injective_43 : decode me_M_injective.2.1 43 = .ok (.istore_n 1, 1) := by decide +kernel
theorem d_M_injective_44 : decode me_M_injective.2.1 44 = .ok (.aload_n 0, 1) := by decide +kernel
theorem d_M_injective_45 : decode me_M_injective.2.1 45 = .ok (.iload_n 1, 1) := by decide +kernel
theorem d_M_injective_46 : decode me_M_injective.2.1 46 = .ok (.ifCond .eq 7, 3) := by decide +kernel
theorem d_M_injective_49 : decode me_M_injective.2.1 49 = .ok (.iconst 2, 1) := by decide +kernel
theorem d_M_injective_50 : decode me_M_injective.2.1 50 = .ok (.goto 4, 3) := by decide +kernel
theorem d_M_injective_53 : decode me_M_injective.2.1 53 = .ok (.iconst 1, 1) := by decide +kernel
theorem d_M_injective_54 : decode me_M_injective.2.1 54 = .ok (.putfield 197, 3) := by decide +kernel
theorem d_M_injective_57 : decode me_M_injective.2.1 57 = .ok (.aload_n 0, 1) := by decide +kernel
theorem d_M_injective_58 : decode me_M_injective.2.1 58 = .ok (.getfield 197, 3) := by decide +kernel
theorem d_M_injective_61 : decode me_M_injective.2.1 61 = .ok (.iconst 1, 1) := by decide +kernel
theorem d_M_injective_62 : decode me_M_injective.2.1 62 = .ok (.isub, 1) := by decide +kernel
theorem d_M_injective_63 : decode me_M_injective.2.1 63 = .ok (.ireturn, 1) := by decide +kernel
abbrev G_M_injective_0 (l : Launch) (v : gs_V) (n : Nat) (post : Int32 → gs_S → Prop) (σ : gs_S) : Prop := gG l v lyM 33 me_M_injective n (qI v lyM 33 post) 0 [(0, .ref (v.2.2 0))] [] σ
abbrev G_M_injective_43 (l : Launch) (v : gs_V) (n : Nat) (post : Int32 → gs_S → Prop) (σ : gs_S) (s0 : Int32) : Prop := gG l v lyM 33 me_M_injective n (qI v lyM 33 post) 43 [(0, .ref (v.2.2 0))] [.int s0] σ
abbrev G_M_injective_54 (l : Launch) (v : gs_V) (n : Nat) (post : Int32 → gs_S → Prop) (σ : gs_S) (s0 : Int32) : Prop := gG l v lyM 33 me_M_injective n (qI v lyM 33 post) 54 [(0, .ref (v.2.2 0))] [.int s0, .ref (v.2.2 0)] σ
abbrev G_M_injective_57 (l : Launch) (v : gs_V) (n : Nat) (post : Int32 → gs_S → Prop) (σ : gs_S) : Prop := gG l v lyM 33 me_M_injective n (qI v lyM 33 post) 57 [(0, .ref (v.2.2 0))] [] σ
set_option maxRecDepth 20000 in
set_option maxHeartbeats 1000000 in
theorem T_M_injective_0 {l : Launch} {v : gs_V} {n : Nat} {post : Int32 → gs_S → Prop} {σ : gs_S} (h : ((¬ (σ.1 0 2) = 0 → ((¬ (σ.1 0 29) = 0 → G_M_injective_57 l v n post σ) ∧ ((σ.1 0 29) = 0 → ((¬ (σ.1 0 3) = 1 → gM l v lyM 33 me_M_anyPair n [.ref (v.2.2 0)] σ (qI v lyM 33 (fun r1 σ1 => ((¬ r1 = 0 → G_M_injective_43 l v n post σ1 0) ∧ (r1 = 0 → G_M_injective_43 l v n post σ1 1))))) ∧ ((σ.1 0 3) = 1 → gM l v lyM 33 me_M_makesAll n [.ref (v.2.2 0)] σ (qI v lyM 33 (fun r2 σ2 => G_M_injective_43 l v n post σ2 r2))))))) ∧ ((σ.1 0 2) = 0 → post ((-1)) σ))) : G_M_injective_0 l v n post σ := by
  refine g_aload_n d_M_injective_0 0 rfl rfl ?_
  refine g_getV (x := .int (σ.1 0 2)) d_M_injective_1 fl_M_179 (by decide) rfl rfl rfl ?_
  refine g_if_ne (tgt := 9) d_M_injective_4 rfl (fun hc => ?_) (fun hc => ?_)
  · have h := h.1 hc
    refine g_aload_n d_M_injective_9 0 rfl rfl ?_
    refine g_getV (x := .int (σ.1 0 29)) d_M_injective_10 fl_M_197 (by decide) rfl rfl rfl ?_
    refine g_if_ne (tgt := 57) d_M_injective_13 rfl (fun hc => ?_) (fun hc => ?_)
    · have h := h.1 hc
      exact h
    · have h := h.2 hc
      refine g_aload_n d_M_injective_16 0 rfl rfl ?_
      refine g_getV (x := .int (σ.1 0 3)) d_M_injective_17 fl_M_182 (by decide) rfl rfl rfl ?_
      refine g_iconst d_M_injective_20 (x := 1) (by decide) ?_
      refine g_icmp_ne (tgt := 31) d_M_injective_21 rfl (fun hc => ?_) (fun hc => ?_)
      · have h := h.1 hc
        refine g_aload_n d_M_injective_31 0 rfl rfl ?_
        refine g_callVi (av := []) (rest := []) d_M_injective_32 Y_M_anyPair lk_M_230 (by decide) rfl rfl I_M_anyPair rfl (Nat.le_of_ble_eq_true rfl) rfl h (fun r1 σ1 h => ?_)
        refine g_if_ne (tgt := 42) d_M_injective_35 rfl (fun hc => ?_) (fun hc => ?_)
        · have h := h.1 hc
          refine g_iconst d_M_injective_42 (x := 0) (by decide) ?_
          exact h
        · have h := h.2 hc
          refine g_iconst d_M_injective_38 (x := 1) (by decide) ?_
          refine g_goto (tgt := 43) d_M_injective_39 rfl ?_
          exact h
      · have h := h.2 hc
        refine g_aload_n d_M_injective_24 0 rfl rfl ?_
        refine g_callVi (av := []) (rest := []) d_M_injective_25 Y_M_makesAll lk_M_223 (by decide) rfl rfl I_M_makesAll rfl (Nat.le_of_ble_eq_true rfl) rfl h (fun r2 σ2 h => ?_)
        refine g_goto (tgt := 43) d_M_injective_28 rfl ?_
        exact h
  · have h := h.2 hc
    refine g_iconst d_M_injective_7 (x := (-1)) (by decide) ?_
    exact g_iret d_M_injective_8 rfl h
set_option maxRecDepth 20000 in
set_option maxHeartbeats 1000000 in
theorem T_M_injective_43 {l : Launch} {v : gs_V} {n : Nat} {post : Int32 → gs_S → Prop} {σ : gs_S} {s0 : Int32} (h : ((s0 = 0 → G_M_injective_54 l v n post σ 1) ∧ (¬ s0 = 0 → G_M_injective_54 l v n post σ 2))) : G_M_injective_43 l v n post σ s0 := by
  refine g_istore_n (L' := [(1, .int s0), (0, .ref (v.2.2 0))]) d_M_injective_43 rfl (by decide) rfl ?_
  refine g_aload_n d_M_injective_44 1 rfl rfl ?_
  refine g_iload_n d_M_injective_45 0 rfl rfl ?_
  refine g_if_eq (tgt := 53) d_M_injective_46 rfl (fun hc => ?_) (fun hc => ?_)
  · have h := h.1 hc
    refine g_iconst d_M_injective_53 (x := 1) (by decide) ?_
    exact g_sub [1] rfl h
  · have h := h.2 hc
    refine g_iconst d_M_injective_49 (x := 2) (by decide) ?_
    refine g_goto (tgt := 54) d_M_injective_50 rfl ?_
    exact g_sub [1] rfl h
set_option maxRecDepth 20000 in
set_option maxHeartbeats 1000000 in
theorem T_M_injective_54 {l : Launch} {v : gs_V} {n : Nat} {post : Int32 → gs_S → Prop} {σ : gs_S} {s0 : Int32} (h : G_M_injective_57 l v n post (gs_pI σ 0 29 s0)) : G_M_injective_54 l v n post σ s0 := by
  refine g_putI d_M_injective_54 fp_M_197 (by decide) rfl rfl ⟨rfl, rfl⟩ ?_
  exact h
set_option maxRecDepth 20000 in
set_option maxHeartbeats 1000000 in
theorem T_M_injective_57 {l : Launch} {v : gs_V} {n : Nat} {post : Int32 → gs_S → Prop} {σ : gs_S} (h : post ((σ.1 0 29) - 1) σ) : G_M_injective_57 l v n post σ := by
  refine g_aload_n d_M_injective_57 0 rfl rfl ?_
  refine g_getV (x := .int (σ.1 0 29)) d_M_injective_58 fl_M_197 (by decide) rfl rfl rfl ?_
  refine g_iconst d_M_injective_61 (x := 1) (by decide) ?_
  refine g_isub d_M_injective_62 ?_
  exact g_iret d_M_injective_63 rfl h
theorem E_M_injective {l : Launch} {v : gs_V} {n : Nat} {post : Int32 → gs_S → Prop} {σ : gs_S} (h : G_M_injective_0 l v n post σ) : gM l v lyM 33 me_M_injective (n + 1) [.ref (v.2.2 0)] σ (qI v lyM 33 post) := gM_of (by decide +kernel) (Nat.le_of_ble_eq_true rfl) h
/-! LineRulesModel.inverse -/
theorem d_M_inverse_0 : decode me_M_inverse.2.1 0 = .ok (.aload_n 0, 1) := by decide +kernel
theorem d_M_inverse_1 : decode me_M_inverse.2.1 1 = .ok (.getfield 179, 3) := by decide +kernel
theorem d_M_inverse_4 : decode me_M_inverse.2.1 4 = .ok (.ifCond .eq 12, 3) := by decide +kernel
theorem d_M_inverse_7 : decode me_M_inverse.2.1 7 = .ok (.iload_n 1, 1) := by decide +kernel
theorem d_M_inverse_8 : decode me_M_inverse.2.1 8 = .ok (.ifCond .lt 8, 3) := by decide +kernel
theorem d_M_inverse_11 : decode me_M_inverse.2.1 11 = .ok (.iload_n 1, 1) := by decide +kernel
theorem d_M_inverse_12 : decode me_M_inverse.2.1 12 = .ok (.iconst 1, 1) := by decide +kernel
theorem d_M_inverse_13 : decode me_M_inverse.2.1 13 = .ok (.if_icmp .le 5, 3) := by decide +kernel
theorem d_M_inverse_16 : decode me_M_inverse.2.1 16 = .ok (.iconst (-1), 1) := by decide +kernel
theorem d_M_inverse_17 : decode me_M_inverse.2.1 17 = .ok (.ireturn, 1) := by decide +kernel
theorem d_M_inverse_18 : decode me_M_inverse.2.1 18 = .ok (.aload_n 0, 1) := by decide +kernel
theorem d_M_inverse_19 : decode me_M_inverse.2.1 19 = .ok (.invokevirtual 245, 3) := by decide +kernel
theorem d_M_inverse_22 : decode me_M_inverse.2.1 22 = .ok (.iload_n 1, 1) := by decide +kernel
theorem d_M_inverse_23 : decode me_M_inverse.2.1 23 = .ok (.ifCond .ne 10, 3) := by decide +kernel
theorem d_M_inverse_26 : decode me_M_inverse.2.1 26 = .ok (.aload_n 0, 1) := by decide +kernel
theorem d_M_inverse_27 : decode me_M_inverse.2.1 27 = .ok (.getfield 236, 3) := by decide +kernel
theorem d_M_inverse_30 : decode me_M_inverse.2.1 30 = .ok (.goto 7, 3) := by decide +kernel
theorem d_M_inverse_33 : decode me_M_inverse.2.1 33 = .ok (.aload_n 0, 1) := by decide +kernel
theorem d_M_inverse_34 : decode me_M_inverse.2.1 34 = .ok (.getfield 239, 3) := by decide +kernel
theorem d_M_inverse_37 : decode me_M_inverse.2.1 37 = .ok (.ireturn, 1) := by decide +kernel
abbrev G_M_inverse_0 (l : Launch) (v : gs_V) (n : Nat) (post : Int32 → gs_S → Prop) (σ : gs_S) (x1 : Int32) : Prop := gG l v lyM 33 me_M_inverse n (qI v lyM 33 post) 0 [(0, .ref (v.2.2 0)), (1, .int x1)] [] σ
abbrev G_M_inverse_16 (l : Launch) (v : gs_V) (n : Nat) (post : Int32 → gs_S → Prop) (σ : gs_S) : Prop := gG l v lyM 33 me_M_inverse n (qI v lyM 33 post) 16 [] [] σ
abbrev G_M_inverse_37 (l : Launch) (v : gs_V) (n : Nat) (post : Int32 → gs_S → Prop) (σ : gs_S) (s0 : Int32) : Prop := gG l v lyM 33 me_M_inverse n (qI v lyM 33 post) 37 [] [.int s0] σ
set_option maxRecDepth 20000 in
set_option maxHeartbeats 1000000 in
theorem T_M_inverse_0 {l : Launch} {v : gs_V} {n : Nat} {post : Int32 → gs_S → Prop} {σ : gs_S} {x1 : Int32} (h : (((σ.1 0 2) = 0 → G_M_inverse_16 l v n post σ) ∧ (¬ (σ.1 0 2) = 0 → ((x1 < 0 → G_M_inverse_16 l v n post σ) ∧ (¬ x1 < 0 → ((x1 ≤ 1 → gM l v lyM 33 me_M_findInverse n [.ref (v.2.2 0)] σ (qV v lyM 33 (fun σ1 => ((¬ x1 = 0 → G_M_inverse_37 l v n post σ1 (σ1.1 0 33)) ∧ (x1 = 0 → G_M_inverse_37 l v n post σ1 (σ1.1 0 32)))))) ∧ (¬ x1 ≤ 1 → G_M_inverse_16 l v n post σ))))))) : G_M_inverse_0 l v n post σ x1 := by
  refine g_aload_n d_M_inverse_0 0 rfl rfl ?_
  refine g_getV (x := .int (σ.1 0 2)) d_M_inverse_1 fl_M_179 (by decide) rfl rfl rfl ?_
  refine g_if_eq (tgt := 16) d_M_inverse_4 rfl (fun hc => ?_) (fun hc => ?_)
  · have h := h.1 hc
    exact g_sub [] rfl h
  · have h := h.2 hc
    refine g_iload_n d_M_inverse_7 1 rfl rfl ?_
    refine g_if_lt (tgt := 16) d_M_inverse_8 rfl (fun hc => ?_) (fun hc => ?_)
    · have h := h.1 hc
      exact g_sub [] rfl h
    · have h := h.2 hc
      refine g_iload_n d_M_inverse_11 1 rfl rfl ?_
      refine g_iconst d_M_inverse_12 (x := 1) (by decide) ?_
      refine g_icmp_le (tgt := 18) d_M_inverse_13 rfl (fun hc => ?_) (fun hc => ?_)
      · have h := h.1 hc
        refine g_aload_n d_M_inverse_18 0 rfl rfl ?_
        refine g_callVv (av := []) (rest := []) d_M_inverse_19 Y_M_findInverse lk_M_245 (by decide) rfl rfl I_M_findInverse rfl (Nat.le_of_ble_eq_true rfl) rfl h (fun σ1 h => ?_)
        refine g_iload_n d_M_inverse_22 1 rfl rfl ?_
        refine g_if_ne (tgt := 33) d_M_inverse_23 rfl (fun hc => ?_) (fun hc => ?_)
        · have h := h.1 hc
          refine g_aload_n d_M_inverse_33 0 rfl rfl ?_
          refine g_getV (x := .int (σ1.1 0 33)) d_M_inverse_34 fl_M_239 (by decide) rfl rfl rfl ?_
          exact g_sub [] rfl h
        · have h := h.2 hc
          refine g_aload_n d_M_inverse_26 0 rfl rfl ?_
          refine g_getV (x := .int (σ1.1 0 32)) d_M_inverse_27 fl_M_236 (by decide) rfl rfl rfl ?_
          refine g_goto (tgt := 37) d_M_inverse_30 rfl ?_
          exact g_sub [] rfl h
      · have h := h.2 hc
        exact g_sub [] rfl h
set_option maxRecDepth 20000 in
set_option maxHeartbeats 1000000 in
theorem T_M_inverse_16 {l : Launch} {v : gs_V} {n : Nat} {post : Int32 → gs_S → Prop} {σ : gs_S} (h : post ((-1)) σ) : G_M_inverse_16 l v n post σ := by
  refine g_iconst d_M_inverse_16 (x := (-1)) (by decide) ?_
  exact g_iret d_M_inverse_17 rfl h
set_option maxRecDepth 20000 in
set_option maxHeartbeats 1000000 in
theorem T_M_inverse_37 {l : Launch} {v : gs_V} {n : Nat} {post : Int32 → gs_S → Prop} {σ : gs_S} {s0 : Int32} (h : post s0 σ) : G_M_inverse_37 l v n post σ s0 := by
  exact g_iret d_M_inverse_37 rfl h
theorem E_M_inverse {l : Launch} {v : gs_V} {n : Nat} {post : Int32 → gs_S → Prop} {σ : gs_S} {x1 : Int32} (h : G_M_inverse_0 l v n post σ x1) : gM l v lyM 33 me_M_inverse (n + 1) [.ref (v.2.2 0), .int x1] σ (qI v lyM 33 post) := gM_of (by decide +kernel) (Nat.le_of_ble_eq_true rfl) h
/-! LineRulesModel.keep -/
theorem d_M_keep_0 : decode me_M_keep.2.1 0 = .ok (.aload_n 0, 1) := by decide +kernel
theorem d_M_keep_1 : decode me_M_keep.2.1 1 = .ok (.getfield 179, 3) := by decide +kernel
theorem d_M_keep_4 : decode me_M_keep.2.1 4 = .ok (.iconst 1, 1) := by decide +kernel
theorem d_M_keep_5 : decode me_M_keep.2.1 5 = .ok (.isub, 1) := by decide +kernel
theorem d_M_keep_6 : decode me_M_keep.2.1 6 = .ok (.istore_n 1, 1) := by decide +kernel
theorem d_M_keep_7 : decode me_M_keep.2.1 7 = .ok (.iload_n 1, 1) := by decide +kernel
theorem d_M_keep_8 : decode me_M_keep.2.1 8 = .ok (.ifCond .le 83, 3) := by decide +kernel
theorem d_M_keep_11 : decode me_M_keep.2.1 11 = .ok (.aload_n 0, 1) := by decide +kernel
theorem d_M_keep_12 : decode me_M_keep.2.1 12 = .ok (.getfield 85, 3) := by decide +kernel
theorem d_M_keep_15 : decode me_M_keep.2.1 15 = .ok (.iload_n 1, 1) := by decide +kernel
theorem d_M_keep_16 : decode me_M_keep.2.1 16 = .ok (.laload, 1) := by decide +kernel
theorem d_M_keep_17 : decode me_M_keep.2.1 17 = .ok (.lconst 0, 1) := by decide +kernel
theorem d_M_keep_18 : decode me_M_keep.2.1 18 = .ok (.lcmp, 1) := by decide +kernel
theorem d_M_keep_19 : decode me_M_keep.2.1 19 = .ok (.ifCond .eq 49, 3) := by decide +kernel
theorem d_M_keep_22 : decode me_M_keep.2.1 22 = .ok (.aload_n 0, 1) := by decide +kernel
theorem d_M_keep_23 : decode me_M_keep.2.1 23 = .ok (.getfield 78, 3) := by decide +kernel
theorem d_M_keep_26 : decode me_M_keep.2.1 26 = .ok (.iload_n 1, 1) := by decide +kernel
theorem d_M_keep_27 : decode me_M_keep.2.1 27 = .ok (.baload, 1) := by decide +kernel
theorem d_M_keep_28 : decode me_M_keep.2.1 28 = .ok (.ifCond .ne 40, 3) := by decide +kernel
theorem d_M_keep_31 : decode me_M_keep.2.1 31 = .ok (.aload_n 0, 1) := by decide +kernel
theorem d_M_keep_32 : decode me_M_keep.2.1 32 = .ok (.getfield 78, 3) := by decide +kernel
theorem d_M_keep_35 : decode me_M_keep.2.1 35 = .ok (.iload_n 1, 1) := by decide +kernel
theorem d_M_keep_36 : decode me_M_keep.2.1 36 = .ok (.iconst 1, 1) := by decide +kernel
theorem d_M_keep_37 : decode me_M_keep.2.1 37 = .ok (.bastore, 1) := by decide +kernel
theorem d_M_keep_38 : decode me_M_keep.2.1 38 = .ok (.iconst 1, 1) := by decide +kernel
theorem d_M_keep_39 : decode me_M_keep.2.1 39 = .ok (.istore_n 2, 1) := by decide +kernel
theorem d_M_keep_40 : decode me_M_keep.2.1 40 = .ok (.iload_n 2, 1) := by decide +kernel
theorem d_M_keep_41 : decode me_M_keep.2.1 41 = .ok (.iconst 4, 1) := by decide +kernel
theorem d_M_keep_42 : decode me_M_keep.2.1 42 = .ok (.if_icmp .ge 25, 3) := by decide +kernel
theorem d_M_keep_45 : decode me_M_keep.2.1 45 = .ok (.aload_n 0, 1) := by decide +kernel
theorem d_M_keep_46 : decode me_M_keep.2.1 46 = .ok (.getfield 81, 3) := by decide +kernel
theorem d_M_keep_49 : decode me_M_keep.2.1 49 = .ok (.iconst 4, 1) := by decide +kernel
theorem d_M_keep_50 : decode me_M_keep.2.1 50 = .ok (.iload_n 1, 1) := by decide +kernel
theorem d_M_keep_51 : decode me_M_keep.2.1 51 = .ok (.imul, 1) := by decide +kernel
theorem d_M_keep_52 : decode me_M_keep.2.1 52 = .ok (.iload_n 2, 1) := by decide +kernel
theorem d_M_keep_53 : decode me_M_keep.2.1 53 = .ok (.iadd, 1) := by decide +kernel
theorem d_M_keep_54 : decode me_M_keep.2.1 54 = .ok (.aload_n 0, 1) := by decide +kernel
theorem d_M_keep_55 : decode me_M_keep.2.1 55 = .ok (.getfield 85, 3) := by decide +kernel
theorem d_M_keep_58 : decode me_M_keep.2.1 58 = .ok (.iload_n 2, 1) := by decide +kernel
theorem d_M_keep_59 : decode me_M_keep.2.1 59 = .ok (.laload, 1) := by decide +kernel
theorem d_M_keep_60 : decode me_M_keep.2.1 60 = .ok (.lastore, 1) := by decide +kernel
theorem d_M_keep_61 : decode me_M_keep.2.1 61 = .ok (.iinc 2 1, 3) := by decide +kernel
theorem d_M_keep_64 : decode me_M_keep.2.1 64 = .ok (.goto (-24), 3) := by decide +kernel
theorem d_M_keep_67 : decode me_M_keep.2.1 67 = .ok (.return_, 1) := by decide +kernel
theorem d_M_keep_68 : decode me_M_keep.2.1 68 = .ok (.aload_n 0, 1) := by decide +kernel
theorem d_M_keep_69 : decode me_M_keep.2.1 69 = .ok (.getfield 85, 3) := by decide +kernel
theorem d_M_keep_72 : decode me_M_keep.2.1 72 = .ok (.iload_n 1, 1) := by decide +kernel
theorem d_M_keep_73 : decode me_M_keep.2.1 73 = .ok (.laload, 1) := by decide +kernel
theorem d_M_keep_74 : decode me_M_keep.2.1 74 = .ok (.lconst 0, 1) := by decide +kernel
theorem d_M_keep_75 : decode me_M_keep.2.1 75 = .ok (.lcmp, 1) := by decide +kernel
theorem d_M_keep_76 : decode me_M_keep.2.1 76 = .ok (.ifCond .eq 9, 3) := by decide +kernel
theorem d_M_keep_79 : decode me_M_keep.2.1 79 = .ok (.aload_n 0, 1) := by decide +kernel
theorem d_M_keep_80 : decode me_M_keep.2.1 80 = .ok (.iload_n 1, 1) := by decide +kernel
theorem d_M_keep_81 : decode me_M_keep.2.1 81 = .ok (.iload_n 1, 1) := by decide +kernel
theorem d_M_keep_82 : decode me_M_keep.2.1 82 = .ok (.invokevirtual 252, 3) := by decide +kernel
theorem d_M_keep_85 : decode me_M_keep.2.1 85 = .ok (.iinc 1 (-1), 3) := by decide +kernel
theorem d_M_keep_88 : decode me_M_keep.2.1 88 = .ok (.goto (-81), 3) := by decide +kernel
theorem d_M_keep_91 : decode me_M_keep.2.1 91 = .ok (.return_, 1) := by decide +kernel
abbrev G_M_keep_0 (l : Launch) (v : gs_V) (n : Nat) (post : gs_S → Prop) (σ : gs_S) : Prop := gG l v lyM 33 me_M_keep n (qV v lyM 33 post) 0 [(0, .ref (v.2.2 0))] [] σ
abbrev G_M_keep_7 (l : Launch) (v : gs_V) (n : Nat) (post : gs_S → Prop) (σ : gs_S) (x1 : Int32) : Prop := gG l v lyM 33 me_M_keep n (qV v lyM 33 post) 7 [(0, .ref (v.2.2 0)), (1, .int x1)] [] σ
abbrev G_M_keep_40 (l : Launch) (v : gs_V) (n : Nat) (post : gs_S → Prop) (σ : gs_S) (x1 : Int32) (x2 : Int32) : Prop := gG l v lyM 33 me_M_keep n (qV v lyM 33 post) 40 [(0, .ref (v.2.2 0)), (1, .int x1), (2, .int x2)] [] σ
abbrev G_M_keep_68 (l : Launch) (v : gs_V) (n : Nat) (post : gs_S → Prop) (σ : gs_S) (x1 : Int32) : Prop := gG l v lyM 33 me_M_keep n (qV v lyM 33 post) 68 [(0, .ref (v.2.2 0)), (1, .int x1)] [] σ
abbrev G_M_keep_85 (l : Launch) (v : gs_V) (n : Nat) (post : gs_S → Prop) (σ : gs_S) (x1 : Int32) : Prop := gG l v lyM 33 me_M_keep n (qV v lyM 33 post) 85 [(0, .ref (v.2.2 0)), (1, .int x1)] [] σ
set_option maxRecDepth 20000 in
set_option maxHeartbeats 1000000 in
theorem T_M_keep_0 {l : Launch} {v : gs_V} {n : Nat} {post : gs_S → Prop} {σ : gs_S} (h : G_M_keep_7 l v n post σ ((σ.1 0 2) - 1)) : G_M_keep_0 l v n post σ := by
  refine g_aload_n d_M_keep_0 0 rfl rfl ?_
  refine g_getV (x := .int (σ.1 0 2)) d_M_keep_1 fl_M_179 (by decide) rfl rfl rfl ?_
  refine g_iconst d_M_keep_4 (x := 1) (by decide) ?_
  refine g_isub d_M_keep_5 ?_
  refine g_istore_n (L' := [(1, .int ((σ.1 0 2) - 1)), (0, .ref (v.2.2 0))]) d_M_keep_6 rfl (by decide) rfl ?_
  exact g_sub [1, 0] rfl h
set_option maxRecDepth 20000 in
set_option maxHeartbeats 1000000 in
theorem T_M_keep_7 {l : Launch} {v : gs_V} {n : Nat} {post : gs_S → Prop} {σ : gs_S} {x1 : Int32} (h : ((x1 ≤ 0 → post σ) ∧ (¬ x1 ≤ 0 → vp_in x1 4 ∧ (((σ.2.1 24 x1.toNatClampNeg) = 0 → G_M_keep_68 l v n post σ x1) ∧ (¬ (σ.2.1 24 x1.toNatClampNeg) = 0 → vp_in x1 4 ∧ ((¬ (σ.1 22 x1.toNatClampNeg) = 0 → G_M_keep_68 l v n post σ x1) ∧ ((σ.1 22 x1.toNatClampNeg) = 0 → vp_in x1 4 ∧ G_M_keep_40 l v n post (gs_pI σ 22 x1.toNatClampNeg 1) x1 1))))))) : G_M_keep_7 l v n post σ x1 := by
  refine g_iload_n d_M_keep_7 1 rfl rfl ?_
  refine g_if_le (tgt := 91) d_M_keep_8 rfl (fun hc => ?_) (fun hc => ?_)
  · have h := h.1 hc
    exact g_vret d_M_keep_91 rfl h
  · have h := h.2 hc
    refine g_aload_n d_M_keep_11 0 rfl rfl ?_
    refine g_getV (x := .ref (v.2.2 24)) d_M_keep_12 fl_M_85 (by decide) rfl rfl rfl ?_
    refine g_iload_n d_M_keep_15 1 rfl rfl ?_
    have hi1 := h.1
    have h := h.2
    refine g_lald (x := σ.2.1 24 x1.toNatClampNeg) d_M_keep_16 (by decide) rfl hi1 rfl ?_
    refine g_lconst d_M_keep_17 (x := 0) (by decide) ?_
    refine g_lcmp_eq (tgt := 68) d_M_keep_18 d_M_keep_19 rfl (fun hc => ?_) (fun hc => ?_)
    · have h := h.1 hc
      exact h
    · have h := h.2 hc
      refine g_aload_n d_M_keep_22 0 rfl rfl ?_
      refine g_getV (x := .ref (v.2.2 22)) d_M_keep_23 fl_M_78 (by decide) rfl rfl rfl ?_
      refine g_iload_n d_M_keep_26 1 rfl rfl ?_
      have hi2 := h.1
      have h := h.2
      refine g_zald (x := σ.1 22 x1.toNatClampNeg) d_M_keep_27 (by decide) rfl hi2 rfl ?_
      refine g_if_ne (tgt := 68) d_M_keep_28 rfl (fun hc => ?_) (fun hc => ?_)
      · have h := h.1 hc
        exact h
      · have h := h.2 hc
        refine g_aload_n d_M_keep_31 0 rfl rfl ?_
        refine g_getV (x := .ref (v.2.2 22)) d_M_keep_32 fl_M_78 (by decide) rfl rfl rfl ?_
        refine g_iload_n d_M_keep_35 1 rfl rfl ?_
        refine g_iconst d_M_keep_36 (x := 1) (by decide) ?_
        have hi3 := h.1
        have h := h.2
        refine g_zast d_M_keep_37 (by decide) rfl hi3 ?_
        refine g_iconst d_M_keep_38 (x := 1) (by decide) ?_
        refine g_istore_n (L' := [(2, .int 1), (0, .ref (v.2.2 0)), (1, .int x1)]) d_M_keep_39 rfl (by decide) rfl ?_
        exact g_sub [1, 2, 0] rfl h
set_option maxRecDepth 20000 in
set_option maxHeartbeats 1000000 in
theorem T_M_keep_40 {l : Launch} {v : gs_V} {n : Nat} {post : gs_S → Prop} {σ : gs_S} {x1 : Int32} {x2 : Int32} (h : ((4 ≤ x2 → post σ) ∧ (¬ 4 ≤ x2 → vp_in x2 4 ∧ vp_in ((4 * x1) + x2) 16 ∧ G_M_keep_40 l v n post (gs_pL σ 23 (((4 * x1) + x2).toNatClampNeg) (σ.2.1 24 x2.toNatClampNeg)) x1 (x2 + 1)))) : G_M_keep_40 l v n post σ x1 x2 := by
  refine g_iload_n d_M_keep_40 2 rfl rfl ?_
  refine g_iconst d_M_keep_41 (x := 4) (by decide) ?_
  refine g_icmp_ge (tgt := 67) d_M_keep_42 rfl (fun hc => ?_) (fun hc => ?_)
  · have h := h.1 hc
    exact g_vret d_M_keep_67 rfl h
  · have h := h.2 hc
    refine g_aload_n d_M_keep_45 0 rfl rfl ?_
    refine g_getV (x := .ref (v.2.2 23)) d_M_keep_46 fl_M_81 (by decide) rfl rfl rfl ?_
    refine g_iconst d_M_keep_49 (x := 4) (by decide) ?_
    refine g_iload_n d_M_keep_50 1 rfl rfl ?_
    refine g_imul d_M_keep_51 ?_
    refine g_iload_n d_M_keep_52 2 rfl rfl ?_
    refine g_iadd d_M_keep_53 ?_
    refine g_aload_n d_M_keep_54 0 rfl rfl ?_
    refine g_getV (x := .ref (v.2.2 24)) d_M_keep_55 fl_M_85 (by decide) rfl rfl rfl ?_
    refine g_iload_n d_M_keep_58 2 rfl rfl ?_
    have hi1 := h.1
    have h := h.2
    refine g_lald (x := σ.2.1 24 x2.toNatClampNeg) d_M_keep_59 (by decide) rfl hi1 rfl ?_
    have hi2 := h.1
    have h := h.2
    refine g_last d_M_keep_60 (by decide) rfl hi2 ?_
    refine g_iinc (L' := [(2, .int (x2 + 1)), (0, .ref (v.2.2 0)), (1, .int x1)]) d_M_keep_61 2 rfl (by rfl) (by decide) rfl ?_
    refine g_goto (tgt := 40) d_M_keep_64 rfl ?_
    exact g_sub [1, 2, 0] rfl h
set_option maxRecDepth 20000 in
set_option maxHeartbeats 1000000 in
theorem T_M_keep_68 {l : Launch} {v : gs_V} {n : Nat} {post : gs_S → Prop} {σ : gs_S} {x1 : Int32} (h : vp_in x1 4 ∧ (((σ.2.1 24 x1.toNatClampNeg) = 0 → G_M_keep_85 l v n post σ x1) ∧ (¬ (σ.2.1 24 x1.toNatClampNeg) = 0 → gM l v lyM 33 me_M_reduce n [.ref (v.2.2 0), .int x1, .int x1] σ (qV v lyM 33 (fun σ2 => G_M_keep_85 l v n post σ2 x1))))) : G_M_keep_68 l v n post σ x1 := by
  refine g_aload_n d_M_keep_68 0 rfl rfl ?_
  refine g_getV (x := .ref (v.2.2 24)) d_M_keep_69 fl_M_85 (by decide) rfl rfl rfl ?_
  refine g_iload_n d_M_keep_72 1 rfl rfl ?_
  have hi1 := h.1
  have h := h.2
  refine g_lald (x := σ.2.1 24 x1.toNatClampNeg) d_M_keep_73 (by decide) rfl hi1 rfl ?_
  refine g_lconst d_M_keep_74 (x := 0) (by decide) ?_
  refine g_lcmp_eq (tgt := 85) d_M_keep_75 d_M_keep_76 rfl (fun hc => ?_) (fun hc => ?_)
  · have h := h.1 hc
    exact h
  · have h := h.2 hc
    refine g_aload_n d_M_keep_79 0 rfl rfl ?_
    refine g_iload_n d_M_keep_80 1 rfl rfl ?_
    refine g_iload_n d_M_keep_81 1 rfl rfl ?_
    refine g_callVv (av := [.int x1, .int x1]) (rest := []) d_M_keep_82 Y_M_reduce lk_M_252 (by decide) rfl rfl I_M_reduce rfl (Nat.le_of_ble_eq_true rfl) rfl h (fun σ2 h => ?_)
    exact h
set_option maxRecDepth 20000 in
set_option maxHeartbeats 1000000 in
theorem T_M_keep_85 {l : Launch} {v : gs_V} {n : Nat} {post : gs_S → Prop} {σ : gs_S} {x1 : Int32} (h : G_M_keep_7 l v n post σ (x1 + (-1))) : G_M_keep_85 l v n post σ x1 := by
  refine g_iinc (L' := [(1, .int (x1 + (-1))), (0, .ref (v.2.2 0))]) d_M_keep_85 1 rfl (by rfl) (by decide) rfl ?_
  refine g_goto (tgt := 7) d_M_keep_88 rfl ?_
  exact g_sub [1, 0] rfl h
theorem E_M_keep {l : Launch} {v : gs_V} {n : Nat} {post : gs_S → Prop} {σ : gs_S} (h : G_M_keep_0 l v n post σ) : gM l v lyM 33 me_M_keep (n + 1) [.ref (v.2.2 0)] σ (qV v lyM 33 post) := gM_of (by decide +kernel) (Nat.le_of_ble_eq_true rfl) h
/-! LineRulesModel.leadsOn -/
theorem d_M_leadsOn_0 : decode me_M_leadsOn.2.1 0 = .ok (.iconst 0, 1) := by decide +kernel
theorem d_M_leadsOn_1 : decode me_M_leadsOn.2.1 1 = .ok (.istore 5, 2) := by decide +kernel
theorem d_M_leadsOn_3 : decode me_M_leadsOn.2.1 3 = .ok (.iload 5, 2) := by decide +kernel
theorem d_M_leadsOn_5 : decode me_M_leadsOn.2.1 5 = .ok (.aload_n 0, 1) := by decide +kernel
theorem d_M_leadsOn_6 : decode me_M_leadsOn.2.1 6 = .ok (.getfield 179, 3) := by decide +kernel
theorem d_M_leadsOn_9 : decode me_M_leadsOn.2.1 9 = .ok (.if_icmp .ge 136, 3) := by decide +kernel
theorem d_M_leadsOn_12 : decode me_M_leadsOn.2.1 12 = .ok (.iconst 0, 1) := by decide +kernel
theorem d_M_leadsOn_13 : decode me_M_leadsOn.2.1 13 = .ok (.istore 6, 2) := by decide +kernel
theorem d_M_leadsOn_15 : decode me_M_leadsOn.2.1 15 = .ok (.iload 6, 2) := by decide +kernel
theorem d_M_leadsOn_17 : decode me_M_leadsOn.2.1 17 = .ok (.aload_n 0, 1) := by decide +kernel
theorem d_M_leadsOn_18 : decode me_M_leadsOn.2.1 18 = .ok (.getfield 179, 3) := by decide +kernel
theorem d_M_leadsOn_21 : decode me_M_leadsOn.2.1 21 = .ok (.if_icmp .ge 118, 3) := by decide +kernel
theorem d_M_leadsOn_24 : decode me_M_leadsOn.2.1 24 = .ok (.iload_n 1, 1) := by decide +kernel
theorem d_M_leadsOn_25 : decode me_M_leadsOn.2.1 25 = .ok (.aload_n 0, 1) := by decide +kernel
theorem d_M_leadsOn_26 : decode me_M_leadsOn.2.1 26 = .ok (.getfield 179, 3) := by decide +kernel
theorem d_M_leadsOn_29 : decode me_M_leadsOn.2.1 29 = .ok (.imul, 1) := by decide +kernel
theorem d_M_leadsOn_30 : decode me_M_leadsOn.2.1 30 = .ok (.iload 5, 2) := by decide +kernel
theorem d_M_leadsOn_32 : decode me_M_leadsOn.2.1 32 = .ok (.iadd, 1) := by decide +kernel
theorem d_M_leadsOn_33 : decode me_M_leadsOn.2.1 33 = .ok (.aload_n 0, 1) := by decide +kernel
theorem d_M_leadsOn_34 : decode me_M_leadsOn.2.1 34 = .ok (.getfield 188, 3) := by decide +kernel
theorem d_M_leadsOn_37 : decode me_M_leadsOn.2.1 37 = .ok (.irem, 1) := by decide +kernel
theorem d_M_leadsOn_38 : decode me_M_leadsOn.2.1 38 = .ok (.istore 7, 2) := by decide +kernel
theorem d_M_leadsOn_40 : decode me_M_leadsOn.2.1 40 = .ok (.iload_n 2, 1) := by decide +kernel
theorem d_M_leadsOn_41 : decode me_M_leadsOn.2.1 41 = .ok (.aload_n 0, 1) := by decide +kernel
theorem d_M_leadsOn_42 : decode me_M_leadsOn.2.1 42 = .ok (.getfield 179, 3) := by decide +kernel
theorem d_M_leadsOn_45 : decode me_M_leadsOn.2.1 45 = .ok (.imul, 1) := by decide +kernel
theorem d_M_leadsOn_46 : decode me_M_leadsOn.2.1 46 = .ok (.iload 6, 2) := by decide +kernel
theorem d_M_leadsOn_48 : decode me_M_leadsOn.2.1 48 = .ok (.iadd, 1) := by decide +kernel
theorem d_M_leadsOn_49 : decode me_M_leadsOn.2.1 49 = .ok (.aload_n 0, 1) := by decide +kernel
theorem d_M_leadsOn_50 : decode me_M_leadsOn.2.1 50 = .ok (.getfield 188, 3) := by decide +kernel
theorem d_M_leadsOn_53 : decode me_M_leadsOn.2.1 53 = .ok (.irem, 1) := by decide +kernel
theorem d_M_leadsOn_54 : decode me_M_leadsOn.2.1 54 = .ok (.istore 8, 2) := by decide +kernel
theorem d_M_leadsOn_56 : decode me_M_leadsOn.2.1 56 = .ok (.iload 7, 2) := by decide +kernel
theorem d_M_leadsOn_58 : decode me_M_leadsOn.2.1 58 = .ok (.iload 8, 2) := by decide +kernel
theorem d_M_leadsOn_60 : decode me_M_leadsOn.2.1 60 = .ok (.if_icmp .ne 8, 3) := by decide +kernel
theorem d_M_leadsOn_63 : decode me_M_leadsOn.2.1 63 = .ok (.iload 4, 2) := by decide +kernel
theorem d_M_leadsOn_65 : decode me_M_leadsOn.2.1 65 = .ok (.goto 28, 3) := by decide +kernel
theorem d_M_leadsOn_68 : decode me_M_leadsOn.2.1 68 = .ok (.iload_n 3, 1) := by decide +kernel
theorem d_M_leadsOn_69 : decode me_M_leadsOn.2.1 69 = .ok (.ifCond .eq 23, 3) := by decide +kernel
theorem d_M_leadsOn_72 : decode me_M_leadsOn.2.1 72 = .ok (.aload_n 0, 1) := by decide +kernel
theorem d_M_leadsOn_73 : decode me_M_leadsOn.2.1 73 = .ok (.getfield 69, 3) := by decide +kernel
theorem d_M_leadsOn_76 : decode me_M_leadsOn.2.1 76 = .ok (.bipush 64, 2) := by decide +kernel
theorem d_M_leadsOn_78 : decode me_M_leadsOn.2.1 78 = .ok (.iload 7, 2) := by decide +kernel
theorem d_M_leadsOn_80 : decode me_M_leadsOn.2.1 80 = .ok (.imul, 1) := by decide +kernel
theorem d_M_leadsOn_81 : decode me_M_leadsOn.2.1 81 = .ok (.iload 8, 2) := by decide +kernel
theorem d_M_leadsOn_83 : decode me_M_leadsOn.2.1 83 = .ok (.iadd, 1) := by decide +kernel
theorem d_M_leadsOn_84 : decode me_M_leadsOn.2.1 84 = .ok (.baload, 1) := by decide +kernel
theorem d_M_leadsOn_85 : decode me_M_leadsOn.2.1 85 = .ok (.ifCond .eq 7, 3) := by decide +kernel
theorem d_M_leadsOn_88 : decode me_M_leadsOn.2.1 88 = .ok (.iconst 1, 1) := by decide +kernel
theorem d_M_leadsOn_89 : decode me_M_leadsOn.2.1 89 = .ok (.goto 4, 3) := by decide +kernel
theorem d_M_leadsOn_92 : decode me_M_leadsOn.2.1 92 = .ok (.iconst 0, 1) := by decide +kernel
theorem d_M_leadsOn_93 : decode me_M_leadsOn.2.1 93 = .ok (.istore 9, 2) := by decide +kernel
theorem d_M_leadsOn_95 : decode me_M_leadsOn.2.1 95 = .ok (.iload 9, 2) := by decide +kernel
theorem d_M_leadsOn_97 : decode me_M_leadsOn.2.1 97 = .ok (.ifCond .eq 36, 3) := by decide +kernel
theorem d_M_leadsOn_100 : decode me_M_leadsOn.2.1 100 = .ok (.aload_n 0, 1) := by decide +kernel
theorem d_M_leadsOn_101 : decode me_M_leadsOn.2.1 101 = .ok (.getfield 13, 3) := by decide +kernel
theorem d_M_leadsOn_104 : decode me_M_leadsOn.2.1 104 = .ok (.iload_n 1, 1) := by decide +kernel
theorem d_M_leadsOn_105 : decode me_M_leadsOn.2.1 105 = .ok (.aload_n 0, 1) := by decide +kernel
theorem d_M_leadsOn_106 : decode me_M_leadsOn.2.1 106 = .ok (.getfield 179, 3) := by decide +kernel
theorem d_M_leadsOn_109 : decode me_M_leadsOn.2.1 109 = .ok (.imul, 1) := by decide +kernel
theorem d_M_leadsOn_110 : decode me_M_leadsOn.2.1 110 = .ok (.iload 5, 2) := by decide +kernel
theorem d_M_leadsOn_112 : decode me_M_leadsOn.2.1 112 = .ok (.iadd, 1) := by decide +kernel
theorem d_M_leadsOn_113 : decode me_M_leadsOn.2.1 113 = .ok (.iaload, 1) := by decide +kernel
theorem d_M_leadsOn_114 : decode me_M_leadsOn.2.1 114 = .ok (.aload_n 0, 1) := by decide +kernel
theorem d_M_leadsOn_115 : decode me_M_leadsOn.2.1 115 = .ok (.getfield 13, 3) := by decide +kernel
theorem d_M_leadsOn_118 : decode me_M_leadsOn.2.1 118 = .ok (.iload_n 2, 1) := by decide +kernel
theorem d_M_leadsOn_119 : decode me_M_leadsOn.2.1 119 = .ok (.aload_n 0, 1) := by decide +kernel
theorem d_M_leadsOn_120 : decode me_M_leadsOn.2.1 120 = .ok (.getfield 179, 3) := by decide +kernel
theorem d_M_leadsOn_123 : decode me_M_leadsOn.2.1 123 = .ok (.imul, 1) := by decide +kernel
theorem d_M_leadsOn_124 : decode me_M_leadsOn.2.1 124 = .ok (.iload 6, 2) := by decide +kernel
theorem d_M_leadsOn_126 : decode me_M_leadsOn.2.1 126 = .ok (.iadd, 1) := by decide +kernel
theorem d_M_leadsOn_127 : decode me_M_leadsOn.2.1 127 = .ok (.iaload, 1) := by decide +kernel
theorem d_M_leadsOn_128 : decode me_M_leadsOn.2.1 128 = .ok (.if_icmp .ne 5, 3) := by decide +kernel
theorem d_M_leadsOn_131 : decode me_M_leadsOn.2.1 131 = .ok (.iconst 1, 1) := by decide +kernel
theorem d_M_leadsOn_132 : decode me_M_leadsOn.2.1 132 = .ok (.ireturn, 1) := by decide +kernel
theorem d_M_leadsOn_133 : decode me_M_leadsOn.2.1 133 = .ok (.iinc 6 1, 3) := by decide +kernel
theorem d_M_leadsOn_136 : decode me_M_leadsOn.2.1 136 = .ok (.goto (-121), 3) := by decide +kernel
theorem d_M_leadsOn_139 : decode me_M_leadsOn.2.1 139 = .ok (.iinc 5 1, 3) := by decide +kernel
theorem d_M_leadsOn_142 : decode me_M_leadsOn.2.1 142 = .ok (.goto (-139), 3) := by decide +kernel
theorem d_M_leadsOn_145 : decode me_M_leadsOn.2.1 145 = .ok (.iconst 0, 1) := by decide +kernel
theorem d_M_leadsOn_146 : decode me_M_leadsOn.2.1 146 = .ok (.ireturn, 1) := by decide +kernel
abbrev G_M_leadsOn_0 (l : Launch) (v : gs_V) (n : Nat) (post : Int32 → gs_S → Prop) (σ : gs_S) (x1 : Int32) (x2 : Int32) (x3 : Int32) (x4 : Int32) : Prop := gG l v lyM 33 me_M_leadsOn n (qI v lyM 33 post) 0 [(0, .ref (v.2.2 0)), (1, .int x1), (2, .int x2), (3, .int x3), (4, .int x4)] [] σ
abbrev G_M_leadsOn_3 (l : Launch) (v : gs_V) (n : Nat) (post : Int32 → gs_S → Prop) (σ : gs_S) (x1 : Int32) (x2 : Int32) (x3 : Int32) (x4 : Int32) (x5 : Int32) : Prop := gG l v lyM 33 me_M_leadsOn n (qI v lyM 33 post) 3 [(0, .ref (v.2.2 0)), (1, .int x1), (2, .int x2), (3, .int x3), (4, .int x4), (5, .int x5)] [] σ
abbrev G_M_leadsOn_15 (l : Launch) (v : gs_V) (n : Nat) (post : Int32 → gs_S → Prop) (σ : gs_S) (x1 : Int32) (x2 : Int32) (x3 : Int32) (x4 : Int32) (x5 : Int32) (x6 : Int32) : Prop := gG l v lyM 33 me_M_leadsOn n (qI v lyM 33 post) 15 [(0, .ref (v.2.2 0)), (1, .int x1), (2, .int x2), (3, .int x3), (4, .int x4), (5, .int x5), (6, .int x6)] [] σ
abbrev G_M_leadsOn_92 (l : Launch) (v : gs_V) (n : Nat) (post : Int32 → gs_S → Prop) (σ : gs_S) (x1 : Int32) (x2 : Int32) (x3 : Int32) (x4 : Int32) (x5 : Int32) (x6 : Int32) : Prop := gG l v lyM 33 me_M_leadsOn n (qI v lyM 33 post) 92 [(0, .ref (v.2.2 0)), (1, .int x1), (2, .int x2), (3, .int x3), (4, .int x4), (5, .int x5), (6, .int x6)] [] σ
abbrev G_M_leadsOn_93 (l : Launch) (v : gs_V) (n : Nat) (post : Int32 → gs_S → Prop) (σ : gs_S) (x1 : Int32) (x2 : Int32) (x3 : Int32) (x4 : Int32) (x5 : Int32) (x6 : Int32) (s0 : Int32) : Prop := gG l v lyM 33 me_M_leadsOn n (qI v lyM 33 post) 93 [(0, .ref (v.2.2 0)), (1, .int x1), (2, .int x2), (3, .int x3), (4, .int x4), (5, .int x5), (6, .int x6)] [.int s0] σ
abbrev G_M_leadsOn_133 (l : Launch) (v : gs_V) (n : Nat) (post : Int32 → gs_S → Prop) (σ : gs_S) (x1 : Int32) (x2 : Int32) (x3 : Int32) (x4 : Int32) (x5 : Int32) (x6 : Int32) : Prop := gG l v lyM 33 me_M_leadsOn n (qI v lyM 33 post) 133 [(0, .ref (v.2.2 0)), (1, .int x1), (2, .int x2), (3, .int x3), (4, .int x4), (5, .int x5), (6, .int x6)] [] σ
set_option maxRecDepth 20000 in
set_option maxHeartbeats 1000000 in
theorem T_M_leadsOn_0 {l : Launch} {v : gs_V} {n : Nat} {post : Int32 → gs_S → Prop} {σ : gs_S} {x1 : Int32} {x2 : Int32} {x3 : Int32} {x4 : Int32} (h : G_M_leadsOn_3 l v n post σ x1 x2 x3 x4 0) : G_M_leadsOn_0 l v n post σ x1 x2 x3 x4 := by
  refine g_iconst d_M_leadsOn_0 (x := 0) (by decide) ?_
  refine g_istore (L' := [(5, .int 0), (0, .ref (v.2.2 0)), (1, .int x1), (2, .int x2), (3, .int x3), (4, .int x4)]) d_M_leadsOn_1 (by decide) rfl ?_
  exact g_sub [1, 2, 3, 4, 5, 0] rfl h
set_option maxRecDepth 20000 in
set_option maxHeartbeats 1000000 in
theorem T_M_leadsOn_3 {l : Launch} {v : gs_V} {n : Nat} {post : Int32 → gs_S → Prop} {σ : gs_S} {x1 : Int32} {x2 : Int32} {x3 : Int32} {x4 : Int32} {x5 : Int32} (h : (((σ.1 0 2) ≤ x5 → post 0 σ) ∧ (¬ (σ.1 0 2) ≤ x5 → G_M_leadsOn_15 l v n post σ x1 x2 x3 x4 x5 0))) : G_M_leadsOn_3 l v n post σ x1 x2 x3 x4 x5 := by
  refine g_iload d_M_leadsOn_3 5 rfl ?_
  refine g_aload_n d_M_leadsOn_5 0 rfl rfl ?_
  refine g_getV (x := .int (σ.1 0 2)) d_M_leadsOn_6 fl_M_179 (by decide) rfl rfl rfl ?_
  refine g_icmp_ge (tgt := 145) d_M_leadsOn_9 rfl (fun hc => ?_) (fun hc => ?_)
  · have h := h.1 hc
    refine g_iconst d_M_leadsOn_145 (x := 0) (by decide) ?_
    exact g_zret d_M_leadsOn_146 rfl rfl h
  · have h := h.2 hc
    refine g_iconst d_M_leadsOn_12 (x := 0) (by decide) ?_
    refine g_istore (L' := [(6, .int 0), (0, .ref (v.2.2 0)), (1, .int x1), (2, .int x2), (3, .int x3), (4, .int x4), (5, .int x5)]) d_M_leadsOn_13 (by decide) rfl ?_
    exact g_sub [1, 2, 3, 4, 5, 6, 0] rfl h
set_option maxRecDepth 20000 in
set_option maxHeartbeats 1000000 in
theorem T_M_leadsOn_15 {l : Launch} {v : gs_V} {n : Nat} {post : Int32 → gs_S → Prop} {σ : gs_S} {x1 : Int32} {x2 : Int32} {x3 : Int32} {x4 : Int32} {x5 : Int32} {x6 : Int32} (h : (((σ.1 0 2) ≤ x6 → G_M_leadsOn_3 l v n post σ x1 x2 x3 x4 (x5 + 1)) ∧ (¬ (σ.1 0 2) ≤ x6 → ¬ (σ.1 0 4) = 0 ∧ ¬ (σ.1 0 4) = 0 ∧ ((¬ (jR ((x1 * (σ.1 0 2)) + x5) (σ.1 0 4)) = (jR ((x2 * (σ.1 0 2)) + x6) (σ.1 0 4)) → ((x3 = 0 → G_M_leadsOn_92 l v n post σ x1 x2 x3 x4 x5 x6) ∧ (¬ x3 = 0 → vp_in ((64 * (jR ((x1 * (σ.1 0 2)) + x5) (σ.1 0 4))) + (jR ((x2 * (σ.1 0 2)) + x6) (σ.1 0 4))) 4096 ∧ (((σ.1 19 (((64 * (jR ((x1 * (σ.1 0 2)) + x5) (σ.1 0 4))) + (jR ((x2 * (σ.1 0 2)) + x6) (σ.1 0 4))).toNatClampNeg)) = 0 → G_M_leadsOn_92 l v n post σ x1 x2 x3 x4 x5 x6) ∧ (¬ (σ.1 19 (((64 * (jR ((x1 * (σ.1 0 2)) + x5) (σ.1 0 4))) + (jR ((x2 * (σ.1 0 2)) + x6) (σ.1 0 4))).toNatClampNeg)) = 0 → G_M_leadsOn_93 l v n post σ x1 x2 x3 x4 x5 x6 1))))) ∧ ((jR ((x1 * (σ.1 0 2)) + x5) (σ.1 0 4)) = (jR ((x2 * (σ.1 0 2)) + x6) (σ.1 0 4)) → G_M_leadsOn_93 l v n post σ x1 x2 x3 x4 x5 x6 x4))))) : G_M_leadsOn_15 l v n post σ x1 x2 x3 x4 x5 x6 := by
  refine g_iload d_M_leadsOn_15 6 rfl ?_
  refine g_aload_n d_M_leadsOn_17 0 rfl rfl ?_
  refine g_getV (x := .int (σ.1 0 2)) d_M_leadsOn_18 fl_M_179 (by decide) rfl rfl rfl ?_
  refine g_icmp_ge (tgt := 139) d_M_leadsOn_21 rfl (fun hc => ?_) (fun hc => ?_)
  · have h := h.1 hc
    refine g_iinc (L' := [(5, .int (x5 + 1)), (0, .ref (v.2.2 0)), (1, .int x1), (2, .int x2), (3, .int x3), (4, .int x4), (6, .int x6)]) d_M_leadsOn_139 5 rfl (by rfl) (by decide) rfl ?_
    refine g_goto (tgt := 3) d_M_leadsOn_142 rfl ?_
    exact g_sub [1, 2, 3, 4, 5, 0] rfl h
  · have h := h.2 hc
    refine g_iload_n d_M_leadsOn_24 1 rfl rfl ?_
    refine g_aload_n d_M_leadsOn_25 0 rfl rfl ?_
    refine g_getV (x := .int (σ.1 0 2)) d_M_leadsOn_26 fl_M_179 (by decide) rfl rfl rfl ?_
    refine g_imul d_M_leadsOn_29 ?_
    refine g_iload d_M_leadsOn_30 5 rfl ?_
    refine g_iadd d_M_leadsOn_32 ?_
    refine g_aload_n d_M_leadsOn_33 0 rfl rfl ?_
    refine g_getV (x := .int (σ.1 0 4)) d_M_leadsOn_34 fl_M_188 (by decide) rfl rfl rfl ?_
    refine g_irem d_M_leadsOn_37 h.1 ?_
    have h := h.2
    refine g_istore (L' := [(7, .int (jR ((x1 * (σ.1 0 2)) + x5) (σ.1 0 4))), (0, .ref (v.2.2 0)), (1, .int x1), (2, .int x2), (3, .int x3), (4, .int x4), (5, .int x5), (6, .int x6)]) d_M_leadsOn_38 (by decide) rfl ?_
    refine g_iload_n d_M_leadsOn_40 3 rfl rfl ?_
    refine g_aload_n d_M_leadsOn_41 1 rfl rfl ?_
    refine g_getV (x := .int (σ.1 0 2)) d_M_leadsOn_42 fl_M_179 (by decide) rfl rfl rfl ?_
    refine g_imul d_M_leadsOn_45 ?_
    refine g_iload d_M_leadsOn_46 7 rfl ?_
    refine g_iadd d_M_leadsOn_48 ?_
    refine g_aload_n d_M_leadsOn_49 1 rfl rfl ?_
    refine g_getV (x := .int (σ.1 0 4)) d_M_leadsOn_50 fl_M_188 (by decide) rfl rfl rfl ?_
    refine g_irem d_M_leadsOn_53 h.1 ?_
    have h := h.2
    refine g_istore (L' := [(8, .int (jR ((x2 * (σ.1 0 2)) + x6) (σ.1 0 4))), (7, .int (jR ((x1 * (σ.1 0 2)) + x5) (σ.1 0 4))), (0, .ref (v.2.2 0)), (1, .int x1), (2, .int x2), (3, .int x3), (4, .int x4), (5, .int x5), (6, .int x6)]) d_M_leadsOn_54 (by decide) rfl ?_
    refine g_iload d_M_leadsOn_56 1 rfl ?_
    refine g_iload d_M_leadsOn_58 0 rfl ?_
    refine g_icmp_ne (tgt := 68) d_M_leadsOn_60 rfl (fun hc => ?_) (fun hc => ?_)
    · have h := h.1 hc
      refine g_iload_n d_M_leadsOn_68 5 rfl rfl ?_
      refine g_if_eq (tgt := 92) d_M_leadsOn_69 rfl (fun hc => ?_) (fun hc => ?_)
      · have h := h.1 hc
        exact g_sub [2, 3, 4, 5, 6, 7, 8] rfl h
      · have h := h.2 hc
        refine g_aload_n d_M_leadsOn_72 2 rfl rfl ?_
        refine g_getV (x := .ref (v.2.2 19)) d_M_leadsOn_73 fl_M_69 (by decide) rfl rfl rfl ?_
        refine g_bipush d_M_leadsOn_76 (x := 64) (by decide) ?_
        refine g_iload d_M_leadsOn_78 1 rfl ?_
        refine g_imul d_M_leadsOn_80 ?_
        refine g_iload d_M_leadsOn_81 0 rfl ?_
        refine g_iadd d_M_leadsOn_83 ?_
        have hi1 := h.1
        have h := h.2
        refine g_zald (x := σ.1 19 (((64 * (jR ((x1 * (σ.1 0 2)) + x5) (σ.1 0 4))) + (jR ((x2 * (σ.1 0 2)) + x6) (σ.1 0 4))).toNatClampNeg)) d_M_leadsOn_84 (by decide) rfl hi1 rfl ?_
        refine g_if_eq (tgt := 92) d_M_leadsOn_85 rfl (fun hc => ?_) (fun hc => ?_)
        · have h := h.1 hc
          exact g_sub [2, 3, 4, 5, 6, 7, 8] rfl h
        · have h := h.2 hc
          refine g_iconst d_M_leadsOn_88 (x := 1) (by decide) ?_
          refine g_goto (tgt := 93) d_M_leadsOn_89 rfl ?_
          exact g_sub [2, 3, 4, 5, 6, 7, 8] rfl h
    · have h := h.2 hc
      refine g_iload d_M_leadsOn_63 6 rfl ?_
      refine g_goto (tgt := 93) d_M_leadsOn_65 rfl ?_
      exact g_sub [2, 3, 4, 5, 6, 7, 8] rfl h
set_option maxRecDepth 20000 in
set_option maxHeartbeats 1000000 in
theorem T_M_leadsOn_92 {l : Launch} {v : gs_V} {n : Nat} {post : Int32 → gs_S → Prop} {σ : gs_S} {x1 : Int32} {x2 : Int32} {x3 : Int32} {x4 : Int32} {x5 : Int32} {x6 : Int32} (h : G_M_leadsOn_93 l v n post σ x1 x2 x3 x4 x5 x6 0) : G_M_leadsOn_92 l v n post σ x1 x2 x3 x4 x5 x6 := by
  refine g_iconst d_M_leadsOn_92 (x := 0) (by decide) ?_
  exact h
set_option maxRecDepth 20000 in
set_option maxHeartbeats 1000000 in
theorem T_M_leadsOn_93 {l : Launch} {v : gs_V} {n : Nat} {post : Int32 → gs_S → Prop} {σ : gs_S} {x1 : Int32} {x2 : Int32} {x3 : Int32} {x4 : Int32} {x5 : Int32} {x6 : Int32} {s0 : Int32} (h : ((s0 = 0 → G_M_leadsOn_133 l v n post σ x1 x2 x3 x4 x5 x6) ∧ (¬ s0 = 0 → vp_in ((x1 * (σ.1 0 2)) + x5) 256 ∧ vp_in ((x2 * (σ.1 0 2)) + x6) 256 ∧ ((¬ (σ.1 2 (((x1 * (σ.1 0 2)) + x5).toNatClampNeg)) = (σ.1 2 (((x2 * (σ.1 0 2)) + x6).toNatClampNeg)) → G_M_leadsOn_133 l v n post σ x1 x2 x3 x4 x5 x6) ∧ ((σ.1 2 (((x1 * (σ.1 0 2)) + x5).toNatClampNeg)) = (σ.1 2 (((x2 * (σ.1 0 2)) + x6).toNatClampNeg)) → post 1 σ))))) : G_M_leadsOn_93 l v n post σ x1 x2 x3 x4 x5 x6 s0 := by
  refine g_istore (L' := [(9, .int s0), (0, .ref (v.2.2 0)), (1, .int x1), (2, .int x2), (3, .int x3), (4, .int x4), (5, .int x5), (6, .int x6)]) d_M_leadsOn_93 (by decide) rfl ?_
  refine g_iload d_M_leadsOn_95 0 rfl ?_
  refine g_if_eq (tgt := 133) d_M_leadsOn_97 rfl (fun hc => ?_) (fun hc => ?_)
  · have h := h.1 hc
    exact g_sub [1, 2, 3, 4, 5, 6, 7] rfl h
  · have h := h.2 hc
    refine g_aload_n d_M_leadsOn_100 1 rfl rfl ?_
    refine g_getV (x := .ref (v.2.2 2)) d_M_leadsOn_101 fl_M_13 (by decide) rfl rfl rfl ?_
    refine g_iload_n d_M_leadsOn_104 2 rfl rfl ?_
    refine g_aload_n d_M_leadsOn_105 1 rfl rfl ?_
    refine g_getV (x := .int (σ.1 0 2)) d_M_leadsOn_106 fl_M_179 (by decide) rfl rfl rfl ?_
    refine g_imul d_M_leadsOn_109 ?_
    refine g_iload d_M_leadsOn_110 6 rfl ?_
    refine g_iadd d_M_leadsOn_112 ?_
    have hi1 := h.1
    have h := h.2
    refine g_iald (x := σ.1 2 (((x1 * (σ.1 0 2)) + x5).toNatClampNeg)) d_M_leadsOn_113 (by decide) rfl hi1 rfl ?_
    refine g_aload_n d_M_leadsOn_114 1 rfl rfl ?_
    refine g_getV (x := .ref (v.2.2 2)) d_M_leadsOn_115 fl_M_13 (by decide) rfl rfl rfl ?_
    refine g_iload_n d_M_leadsOn_118 3 rfl rfl ?_
    refine g_aload_n d_M_leadsOn_119 1 rfl rfl ?_
    refine g_getV (x := .int (σ.1 0 2)) d_M_leadsOn_120 fl_M_179 (by decide) rfl rfl rfl ?_
    refine g_imul d_M_leadsOn_123 ?_
    refine g_iload d_M_leadsOn_124 7 rfl ?_
    refine g_iadd d_M_leadsOn_126 ?_
    have hi2 := h.1
    have h := h.2
    refine g_iald (x := σ.1 2 (((x2 * (σ.1 0 2)) + x6).toNatClampNeg)) d_M_leadsOn_127 (by decide) rfl hi2 rfl ?_
    refine g_icmp_ne (tgt := 133) d_M_leadsOn_128 rfl (fun hc => ?_) (fun hc => ?_)
    · have h := h.1 hc
      exact g_sub [1, 2, 3, 4, 5, 6, 7] rfl h
    · have h := h.2 hc
      refine g_iconst d_M_leadsOn_131 (x := 1) (by decide) ?_
      exact g_zret d_M_leadsOn_132 rfl rfl h
set_option maxRecDepth 20000 in
set_option maxHeartbeats 1000000 in
theorem T_M_leadsOn_133 {l : Launch} {v : gs_V} {n : Nat} {post : Int32 → gs_S → Prop} {σ : gs_S} {x1 : Int32} {x2 : Int32} {x3 : Int32} {x4 : Int32} {x5 : Int32} {x6 : Int32} (h : G_M_leadsOn_15 l v n post σ x1 x2 x3 x4 x5 (x6 + 1)) : G_M_leadsOn_133 l v n post σ x1 x2 x3 x4 x5 x6 := by
  refine g_iinc (L' := [(6, .int (x6 + 1)), (0, .ref (v.2.2 0)), (1, .int x1), (2, .int x2), (3, .int x3), (4, .int x4), (5, .int x5)]) d_M_leadsOn_133 6 rfl (by rfl) (by decide) rfl ?_
  refine g_goto (tgt := 15) d_M_leadsOn_136 rfl ?_
  exact g_sub [1, 2, 3, 4, 5, 6, 0] rfl h
theorem E_M_leadsOn {l : Launch} {v : gs_V} {n : Nat} {post : Int32 → gs_S → Prop} {σ : gs_S} {x1 : Int32} {x2 : Int32} {x3 : Int32} {x4 : Int32} (h : G_M_leadsOn_0 l v n post σ x1 x2 x3 x4) : gM l v lyM 33 me_M_leadsOn (n + 1) [.ref (v.2.2 0), .int x1, .int x2, .int x3, .int x4] σ (qI v lyM 33 post) := gM_of (by decide +kernel) (Nat.le_of_ble_eq_true rfl) h
/-! LineRulesModel.load -/
theorem d_M_load_0 : decode me_M_load.2.1 0 = .ok (.iload_n 1, 1) := by decide +kernel
theorem d_M_load_1 : decode me_M_load.2.1 1 = .ok (.bipush 32, 2) := by decide +kernel
theorem d_M_load_3 : decode me_M_load.2.1 3 = .ok (.if_icmp .lt 9, 3) := by decide +kernel
theorem d_M_load_6 : decode me_M_load.2.1 6 = .ok (.iload_n 1, 1) := by decide +kernel
theorem d_M_load_7 : decode me_M_load.2.1 7 = .ok (.bipush 126, 2) := by decide +kernel
theorem d_M_load_9 : decode me_M_load.2.1 9 = .ok (.if_icmp .le 5, 3) := by decide +kernel
theorem d_M_load_12 : decode me_M_load.2.1 12 = .ok (.iconst (-1), 1) := by decide +kernel
theorem d_M_load_13 : decode me_M_load.2.1 13 = .ok (.ireturn, 1) := by decide +kernel
theorem d_M_load_14 : decode me_M_load.2.1 14 = .ok (.aload_n 0, 1) := by decide +kernel
theorem d_M_load_15 : decode me_M_load.2.1 15 = .ok (.getfield 112, 3) := by decide +kernel
theorem d_M_load_18 : decode me_M_load.2.1 18 = .ok (.bipush 64, 2) := by decide +kernel
theorem d_M_load_20 : decode me_M_load.2.1 20 = .ok (.if_icmp .ne 6, 3) := by decide +kernel
theorem d_M_load_23 : decode me_M_load.2.1 23 = .ok (.bipush (-2), 2) := by decide +kernel
theorem d_M_load_25 : decode me_M_load.2.1 25 = .ok (.ireturn, 1) := by decide +kernel
theorem d_M_load_26 : decode me_M_load.2.1 26 = .ok (.aload_n 0, 1) := by decide +kernel
theorem d_M_load_27 : decode me_M_load.2.1 27 = .ok (.getfield 7, 3) := by decide +kernel
theorem d_M_load_30 : decode me_M_load.2.1 30 = .ok (.aload_n 0, 1) := by decide +kernel
theorem d_M_load_31 : decode me_M_load.2.1 31 = .ok (.getfield 112, 3) := by decide +kernel
theorem d_M_load_34 : decode me_M_load.2.1 34 = .ok (.iload_n 1, 1) := by decide +kernel
theorem d_M_load_35 : decode me_M_load.2.1 35 = .ok (.iastore, 1) := by decide +kernel
theorem d_M_load_36 : decode me_M_load.2.1 36 = .ok (.aload_n 0, 1) := by decide +kernel
theorem d_M_load_37 : decode me_M_load.2.1 37 = .ok (.dup, 1) := by decide +kernel
theorem d_M_load_38 : decode me_M_load.2.1 38 = .ok (.getfield 112, 3) := by decide +kernel
theorem d_M_load_41 : decode me_M_load.2.1 41 = .ok (.iconst 1, 1) := by decide +kernel
theorem d_M_load_42 : decode me_M_load.2.1 42 = .ok (.iadd, 1) := by decide +kernel
theorem d_M_load_43 : decode me_M_load.2.1 43 = .ok (.putfield 112, 3) := by decide +kernel
theorem d_M_load_46 : decode me_M_load.2.1 46 = .ok (.aload_n 0, 1) := by decide +kernel
theorem d_M_load_47 : decode me_M_load.2.1 47 = .ok (.getfield 112, 3) := by decide +kernel
theorem d_M_load_50 : decode me_M_load.2.1 50 = .ok (.ireturn, 1) := by decide +kernel
abbrev G_M_load_0 (l : Launch) (v : gs_V) (n : Nat) (post : Int32 → gs_S → Prop) (σ : gs_S) (x1 : Int32) : Prop := gG l v lyM 33 me_M_load n (qI v lyM 33 post) 0 [(0, .ref (v.2.2 0)), (1, .int x1)] [] σ
abbrev G_M_load_12 (l : Launch) (v : gs_V) (n : Nat) (post : Int32 → gs_S → Prop) (σ : gs_S) : Prop := gG l v lyM 33 me_M_load n (qI v lyM 33 post) 12 [] [] σ
set_option maxRecDepth 20000 in
set_option maxHeartbeats 1000000 in
theorem T_M_load_0 {l : Launch} {v : gs_V} {n : Nat} {post : Int32 → gs_S → Prop} {σ : gs_S} {x1 : Int32} (h : ((x1 < 32 → G_M_load_12 l v n post σ) ∧ (¬ x1 < 32 → ((x1 ≤ 126 → ((¬ (σ.1 0 0) = 64 → vp_in (σ.1 0 0) 64 ∧ post ((σ.1 0 0) + 1) (gs_pI (gs_pI σ 1 ((σ.1 0 0).toNatClampNeg) x1) 0 0 ((σ.1 0 0) + 1))) ∧ ((σ.1 0 0) = 64 → post ((-2)) σ))) ∧ (¬ x1 ≤ 126 → G_M_load_12 l v n post σ))))) : G_M_load_0 l v n post σ x1 := by
  refine g_iload_n d_M_load_0 1 rfl rfl ?_
  refine g_bipush d_M_load_1 (x := 32) (by decide) ?_
  refine g_icmp_lt (tgt := 12) d_M_load_3 rfl (fun hc => ?_) (fun hc => ?_)
  · have h := h.1 hc
    exact g_sub [] rfl h
  · have h := h.2 hc
    refine g_iload_n d_M_load_6 1 rfl rfl ?_
    refine g_bipush d_M_load_7 (x := 126) (by decide) ?_
    refine g_icmp_le (tgt := 14) d_M_load_9 rfl (fun hc => ?_) (fun hc => ?_)
    · have h := h.1 hc
      refine g_aload_n d_M_load_14 0 rfl rfl ?_
      refine g_getV (x := .int (σ.1 0 0)) d_M_load_15 fl_M_112 (by decide) rfl rfl rfl ?_
      refine g_bipush d_M_load_18 (x := 64) (by decide) ?_
      refine g_icmp_ne (tgt := 26) d_M_load_20 rfl (fun hc => ?_) (fun hc => ?_)
      · have h := h.1 hc
        refine g_aload_n d_M_load_26 0 rfl rfl ?_
        refine g_getV (x := .ref (v.2.2 1)) d_M_load_27 fl_M_7 (by decide) rfl rfl rfl ?_
        refine g_aload_n d_M_load_30 0 rfl rfl ?_
        refine g_getV (x := .int (σ.1 0 0)) d_M_load_31 fl_M_112 (by decide) rfl rfl rfl ?_
        refine g_iload_n d_M_load_34 1 rfl rfl ?_
        have hi1 := h.1
        have h := h.2
        refine g_iast d_M_load_35 (by decide) rfl hi1 ?_
        refine g_aload_n d_M_load_36 0 rfl rfl ?_
        refine g_dup d_M_load_37 rfl ?_
        refine g_getV (x := .int (σ.1 0 0)) d_M_load_38 fl_M_112 (by decide) rfl rfl rfl ?_
        refine g_iconst d_M_load_41 (x := 1) (by decide) ?_
        refine g_iadd d_M_load_42 ?_
        refine g_putI d_M_load_43 fp_M_112 (by decide) rfl rfl ⟨rfl, rfl⟩ ?_
        refine g_aload_n d_M_load_46 0 rfl rfl ?_
        refine g_getV (x := .int ((σ.1 0 0) + 1)) d_M_load_47 fl_M_112 (by decide) rfl rfl rfl ?_
        exact g_iret d_M_load_50 rfl h
      · have h := h.2 hc
        refine g_bipush d_M_load_23 (x := (-2)) (by decide) ?_
        exact g_iret d_M_load_25 rfl h
    · have h := h.2 hc
      exact g_sub [] rfl h
set_option maxRecDepth 20000 in
set_option maxHeartbeats 1000000 in
theorem T_M_load_12 {l : Launch} {v : gs_V} {n : Nat} {post : Int32 → gs_S → Prop} {σ : gs_S} (h : post ((-1)) σ) : G_M_load_12 l v n post σ := by
  refine g_iconst d_M_load_12 (x := (-1)) (by decide) ?_
  exact g_iret d_M_load_13 rfl h
theorem E_M_load {l : Launch} {v : gs_V} {n : Nat} {post : Int32 → gs_S → Prop} {σ : gs_S} {x1 : Int32} (h : G_M_load_0 l v n post σ x1) : gM l v lyM 33 me_M_load (n + 1) [.ref (v.2.2 0), .int x1] σ (qI v lyM 33 post) := gM_of (by decide +kernel) (Nat.le_of_ble_eq_true rfl) h
/-! LineRulesModel.lookBack -/
theorem d_M_lookBack_0 : decode me_M_lookBack.2.1 0 = .ok (.aload_n 0, 1) := by decide +kernel
theorem d_M_lookBack_1 : decode me_M_lookBack.2.1 1 = .ok (.getfield 109, 3) := by decide +kernel
theorem d_M_lookBack_4 : decode me_M_lookBack.2.1 4 = .ok (.aload_n 0, 1) := by decide +kernel
theorem d_M_lookBack_5 : decode me_M_lookBack.2.1 5 = .ok (.getfield 16, 3) := by decide +kernel
theorem d_M_lookBack_8 : decode me_M_lookBack.2.1 8 = .ok (.lconst 1, 1) := by decide +kernel
theorem d_M_lookBack_9 : decode me_M_lookBack.2.1 9 = .ok (.iload_n 1, 1) := by decide +kernel
theorem d_M_lookBack_10 : decode me_M_lookBack.2.1 10 = .ok (.lshl, 1) := by decide +kernel
theorem d_M_lookBack_11 : decode me_M_lookBack.2.1 11 = .ok (.lastore, 1) := by decide +kernel
theorem d_M_lookBack_12 : decode me_M_lookBack.2.1 12 = .ok (.aload_n 0, 1) := by decide +kernel
theorem d_M_lookBack_13 : decode me_M_lookBack.2.1 13 = .ok (.getfield 16, 3) := by decide +kernel
theorem d_M_lookBack_16 : decode me_M_lookBack.2.1 16 = .ok (.iconst 1, 1) := by decide +kernel
theorem d_M_lookBack_17 : decode me_M_lookBack.2.1 17 = .ok (.isub, 1) := by decide +kernel
theorem d_M_lookBack_18 : decode me_M_lookBack.2.1 18 = .ok (.istore_n 2, 1) := by decide +kernel
theorem d_M_lookBack_19 : decode me_M_lookBack.2.1 19 = .ok (.iload_n 2, 1) := by decide +kernel
theorem d_M_lookBack_20 : decode me_M_lookBack.2.1 20 = .ok (.ifCond .lt 85, 3) := by decide +kernel
theorem d_M_lookBack_23 : decode me_M_lookBack.2.1 23 = .ok (.aload_n 0, 1) := by decide +kernel
theorem d_M_lookBack_24 : decode me_M_lookBack.2.1 24 = .ok (.getfield 109, 3) := by decide +kernel
theorem d_M_lookBack_27 : decode me_M_lookBack.2.1 27 = .ok (.iload_n 2, 1) := by decide +kernel
theorem d_M_lookBack_28 : decode me_M_lookBack.2.1 28 = .ok (.lconst 0, 1) := by decide +kernel
theorem d_M_lookBack_29 : decode me_M_lookBack.2.1 29 = .ok (.lastore, 1) := by decide +kernel
theorem d_M_lookBack_30 : decode me_M_lookBack.2.1 30 = .ok (.iconst 0, 1) := by decide +kernel
theorem d_M_lookBack_31 : decode me_M_lookBack.2.1 31 = .ok (.istore_n 3, 1) := by decide +kernel
theorem d_M_lookBack_32 : decode me_M_lookBack.2.1 32 = .ok (.iload_n 3, 1) := by decide +kernel
theorem d_M_lookBack_33 : decode me_M_lookBack.2.1 33 = .ok (.aload_n 0, 1) := by decide +kernel
theorem d_M_lookBack_34 : decode me_M_lookBack.2.1 34 = .ok (.getfield 185, 3) := by decide +kernel
theorem d_M_lookBack_37 : decode me_M_lookBack.2.1 37 = .ok (.if_icmp .ge 62, 3) := by decide +kernel
theorem d_M_lookBack_40 : decode me_M_lookBack.2.1 40 = .ok (.aload_n 0, 1) := by decide +kernel
theorem d_M_lookBack_41 : decode me_M_lookBack.2.1 41 = .ok (.getfield 13, 3) := by decide +kernel
theorem d_M_lookBack_44 : decode me_M_lookBack.2.1 44 = .ok (.iload_n 3, 1) := by decide +kernel
theorem d_M_lookBack_45 : decode me_M_lookBack.2.1 45 = .ok (.iaload, 1) := by decide +kernel
theorem d_M_lookBack_46 : decode me_M_lookBack.2.1 46 = .ok (.aload_n 0, 1) := by decide +kernel
theorem d_M_lookBack_47 : decode me_M_lookBack.2.1 47 = .ok (.iload_n 2, 1) := by decide +kernel
theorem d_M_lookBack_48 : decode me_M_lookBack.2.1 48 = .ok (.invokevirtual 288, 3) := by decide +kernel
theorem d_M_lookBack_51 : decode me_M_lookBack.2.1 51 = .ok (.if_icmp .ne 42, 3) := by decide +kernel
theorem d_M_lookBack_54 : decode me_M_lookBack.2.1 54 = .ok (.aload_n 0, 1) := by decide +kernel
theorem d_M_lookBack_55 : decode me_M_lookBack.2.1 55 = .ok (.getfield 109, 3) := by decide +kernel
theorem d_M_lookBack_58 : decode me_M_lookBack.2.1 58 = .ok (.iload_n 2, 1) := by decide +kernel
theorem d_M_lookBack_59 : decode me_M_lookBack.2.1 59 = .ok (.iconst 1, 1) := by decide +kernel
theorem d_M_lookBack_60 : decode me_M_lookBack.2.1 60 = .ok (.iadd, 1) := by decide +kernel
theorem d_M_lookBack_61 : decode me_M_lookBack.2.1 61 = .ok (.laload, 1) := by decide +kernel
theorem d_M_lookBack_62 : decode me_M_lookBack.2.1 62 = .ok (.iload_n 3, 1) := by decide +kernel
theorem d_M_lookBack_63 : decode me_M_lookBack.2.1 63 = .ok (.aload_n 0, 1) := by decide +kernel
theorem d_M_lookBack_64 : decode me_M_lookBack.2.1 64 = .ok (.getfield 188, 3) := by decide +kernel
theorem d_M_lookBack_67 : decode me_M_lookBack.2.1 67 = .ok (.irem, 1) := by decide +kernel
theorem d_M_lookBack_68 : decode me_M_lookBack.2.1 68 = .ok (.lshr, 1) := by decide +kernel
theorem d_M_lookBack_69 : decode me_M_lookBack.2.1 69 = .ok (.lconst 1, 1) := by decide +kernel
theorem d_M_lookBack_70 : decode me_M_lookBack.2.1 70 = .ok (.land, 1) := by decide +kernel
theorem d_M_lookBack_71 : decode me_M_lookBack.2.1 71 = .ok (.lconst 1, 1) := by decide +kernel
theorem d_M_lookBack_72 : decode me_M_lookBack.2.1 72 = .ok (.lcmp, 1) := by decide +kernel
theorem d_M_lookBack_73 : decode me_M_lookBack.2.1 73 = .ok (.ifCond .ne 20, 3) := by decide +kernel
theorem d_M_lookBack_76 : decode me_M_lookBack.2.1 76 = .ok (.aload_n 0, 1) := by decide +kernel
theorem d_M_lookBack_77 : decode me_M_lookBack.2.1 77 = .ok (.getfield 109, 3) := by decide +kernel
theorem d_M_lookBack_80 : decode me_M_lookBack.2.1 80 = .ok (.iload_n 2, 1) := by decide +kernel
theorem d_M_lookBack_81 : decode me_M_lookBack.2.1 81 = .ok (.dup2, 1) := by decide +kernel
theorem d_M_lookBack_82 : decode me_M_lookBack.2.1 82 = .ok (.laload, 1) := by decide +kernel
theorem d_M_lookBack_83 : decode me_M_lookBack.2.1 83 = .ok (.lconst 1, 1) := by decide +kernel
theorem d_M_lookBack_84 : decode me_M_lookBack.2.1 84 = .ok (.iload_n 3, 1) := by decide +kernel
theorem d_M_lookBack_85 : decode me_M_lookBack.2.1 85 = .ok (.aload_n 0, 1) := by decide +kernel
theorem d_M_lookBack_86 : decode me_M_lookBack.2.1 86 = .ok (.getfield 179, 3) := by decide +kernel
theorem d_M_lookBack_89 : decode me_M_lookBack.2.1 89 = .ok (.idiv, 1) := by decide +kernel
theorem d_M_lookBack_90 : decode me_M_lookBack.2.1 90 = .ok (.lshl, 1) := by decide +kernel
theorem d_M_lookBack_91 : decode me_M_lookBack.2.1 91 = .ok (.lor, 1) := by decide +kernel
theorem d_M_lookBack_92 : decode me_M_lookBack.2.1 92 = .ok (.lastore, 1) := by decide +kernel
theorem d_M_lookBack_93 : decode me_M_lookBack.2.1 93 = .ok (.iinc 3 1, 3) := by decide +kernel
theorem d_M_lookBack_96 : decode me_M_lookBack.2.1 96 = .ok (.goto (-64), 3) := by decide +kernel
theorem d_M_lookBack_99 : decode me_M_lookBack.2.1 99 = .ok (.iinc 2 (-1), 3) := by decide +kernel
theorem d_M_lookBack_102 : decode me_M_lookBack.2.1 102 = .ok (.goto (-83), 3) := by decide +kernel
theorem d_M_lookBack_105 : decode me_M_lookBack.2.1 105 = .ok (.return_, 1) := by decide +kernel
abbrev G_M_lookBack_0 (l : Launch) (v : gs_V) (n : Nat) (post : gs_S → Prop) (σ : gs_S) (x1 : Int32) : Prop := gG l v lyM 33 me_M_lookBack n (qV v lyM 33 post) 0 [(0, .ref (v.2.2 0)), (1, .int x1)] [] σ
abbrev G_M_lookBack_19 (l : Launch) (v : gs_V) (n : Nat) (post : gs_S → Prop) (σ : gs_S) (x2 : Int32) : Prop := gG l v lyM 33 me_M_lookBack n (qV v lyM 33 post) 19 [(0, .ref (v.2.2 0)), (2, .int x2)] [] σ
abbrev G_M_lookBack_32 (l : Launch) (v : gs_V) (n : Nat) (post : gs_S → Prop) (σ : gs_S) (x2 : Int32) (x3 : Int32) : Prop := gG l v lyM 33 me_M_lookBack n (qV v lyM 33 post) 32 [(0, .ref (v.2.2 0)), (2, .int x2), (3, .int x3)] [] σ
abbrev G_M_lookBack_93 (l : Launch) (v : gs_V) (n : Nat) (post : gs_S → Prop) (σ : gs_S) (x2 : Int32) (x3 : Int32) : Prop := gG l v lyM 33 me_M_lookBack n (qV v lyM 33 post) 93 [(0, .ref (v.2.2 0)), (2, .int x2), (3, .int x3)] [] σ
set_option maxRecDepth 20000 in
set_option maxHeartbeats 1000000 in
theorem T_M_lookBack_0 {l : Launch} {v : gs_V} {n : Nat} {post : gs_S → Prop} {σ : gs_S} {x1 : Int32} (h : vp_in (σ.1 0 7) 65 ∧ G_M_lookBack_19 l v n post (gs_pL σ 32 ((σ.1 0 7).toNatClampNeg) (jS 1 x1)) ((σ.1 0 7) - 1)) : G_M_lookBack_0 l v n post σ x1 := by
  refine g_aload_n d_M_lookBack_0 0 rfl rfl ?_
  refine g_getV (x := .ref (v.2.2 32)) d_M_lookBack_1 fl_M_109 (by decide) rfl rfl rfl ?_
  refine g_aload_n d_M_lookBack_4 0 rfl rfl ?_
  refine g_getV (x := .int (σ.1 0 7)) d_M_lookBack_5 fl_M_16 (by decide) rfl rfl rfl ?_
  refine g_lconst d_M_lookBack_8 (x := 1) (by decide) ?_
  refine g_iload_n d_M_lookBack_9 1 rfl rfl ?_
  refine g_lshl d_M_lookBack_10 ?_
  have hi1 := h.1
  have h := h.2
  refine g_last d_M_lookBack_11 (by decide) rfl hi1 ?_
  refine g_aload_n d_M_lookBack_12 0 rfl rfl ?_
  refine g_getV (x := .int (σ.1 0 7)) d_M_lookBack_13 fl_M_16 (by decide) rfl rfl rfl ?_
  refine g_iconst d_M_lookBack_16 (x := 1) (by decide) ?_
  refine g_isub d_M_lookBack_17 ?_
  refine g_istore_n (L' := [(2, .int ((σ.1 0 7) - 1)), (0, .ref (v.2.2 0)), (1, .int x1)]) d_M_lookBack_18 rfl (by decide) rfl ?_
  exact g_sub [1, 0] rfl h
set_option maxRecDepth 20000 in
set_option maxHeartbeats 1000000 in
theorem T_M_lookBack_19 {l : Launch} {v : gs_V} {n : Nat} {post : gs_S → Prop} {σ : gs_S} {x2 : Int32} (h : ((x2 < 0 → post σ) ∧ (¬ x2 < 0 → vp_in x2 65 ∧ G_M_lookBack_32 l v n post (gs_pL σ 32 x2.toNatClampNeg 0) x2 0))) : G_M_lookBack_19 l v n post σ x2 := by
  refine g_iload_n d_M_lookBack_19 1 rfl rfl ?_
  refine g_if_lt (tgt := 105) d_M_lookBack_20 rfl (fun hc => ?_) (fun hc => ?_)
  · have h := h.1 hc
    exact g_vret d_M_lookBack_105 rfl h
  · have h := h.2 hc
    refine g_aload_n d_M_lookBack_23 0 rfl rfl ?_
    refine g_getV (x := .ref (v.2.2 32)) d_M_lookBack_24 fl_M_109 (by decide) rfl rfl rfl ?_
    refine g_iload_n d_M_lookBack_27 1 rfl rfl ?_
    refine g_lconst d_M_lookBack_28 (x := 0) (by decide) ?_
    have hi1 := h.1
    have h := h.2
    refine g_last d_M_lookBack_29 (by decide) rfl hi1 ?_
    refine g_iconst d_M_lookBack_30 (x := 0) (by decide) ?_
    refine g_istore_n (L' := [(3, .int 0), (0, .ref (v.2.2 0)), (2, .int x2)]) d_M_lookBack_31 rfl (by decide) rfl ?_
    exact g_sub [1, 2, 0] rfl h
set_option maxRecDepth 20000 in
set_option maxHeartbeats 1000000 in
theorem T_M_lookBack_32 {l : Launch} {v : gs_V} {n : Nat} {post : gs_S → Prop} {σ : gs_S} {x2 : Int32} {x3 : Int32} (h : (((σ.1 0 5) ≤ x3 → G_M_lookBack_19 l v n post σ (x2 + (-1))) ∧ (¬ (σ.1 0 5) ≤ x3 → vp_in x3 256 ∧ gM l v lyM 33 me_M_wanted n [.ref (v.2.2 0), .int x2] σ (qI v lyM 33 (fun r2 σ2 => ((¬ (σ.1 2 x3.toNatClampNeg) = r2 → G_M_lookBack_93 l v n post σ2 x2 x3) ∧ ((σ.1 2 x3.toNatClampNeg) = r2 → vp_in (x2 + 1) 65 ∧ ¬ (σ2.1 0 4) = 0 ∧ ((¬ ((jA (σ2.2.1 32 ((x2 + 1).toNatClampNeg)) (jR x3 (σ2.1 0 4))) &&& 1) = 1 → G_M_lookBack_93 l v n post σ2 x2 x3) ∧ (((jA (σ2.2.1 32 ((x2 + 1).toNatClampNeg)) (jR x3 (σ2.1 0 4))) &&& 1) = 1 → vp_in x2 65 ∧ ¬ (σ2.1 0 2) = 0 ∧ vp_in x2 65 ∧ G_M_lookBack_93 l v n post (gs_pL σ2 32 x2.toNatClampNeg ((σ2.2.1 32 x2.toNatClampNeg) ||| (jS 1 (x3 / (σ2.1 0 2))))) x2 x3))))))))) : G_M_lookBack_32 l v n post σ x2 x3 := by
  refine g_iload_n d_M_lookBack_32 2 rfl rfl ?_
  refine g_aload_n d_M_lookBack_33 0 rfl rfl ?_
  refine g_getV (x := .int (σ.1 0 5)) d_M_lookBack_34 fl_M_185 (by decide) rfl rfl rfl ?_
  refine g_icmp_ge (tgt := 99) d_M_lookBack_37 rfl (fun hc => ?_) (fun hc => ?_)
  · have h := h.1 hc
    refine g_iinc (L' := [(2, .int (x2 + (-1))), (0, .ref (v.2.2 0)), (3, .int x3)]) d_M_lookBack_99 1 rfl (by rfl) (by decide) rfl ?_
    refine g_goto (tgt := 19) d_M_lookBack_102 rfl ?_
    exact g_sub [1, 0] rfl h
  · have h := h.2 hc
    refine g_aload_n d_M_lookBack_40 0 rfl rfl ?_
    refine g_getV (x := .ref (v.2.2 2)) d_M_lookBack_41 fl_M_13 (by decide) rfl rfl rfl ?_
    refine g_iload_n d_M_lookBack_44 2 rfl rfl ?_
    have hi1 := h.1
    have h := h.2
    refine g_iald (x := σ.1 2 x3.toNatClampNeg) d_M_lookBack_45 (by decide) rfl hi1 rfl ?_
    refine g_aload_n d_M_lookBack_46 0 rfl rfl ?_
    refine g_iload_n d_M_lookBack_47 1 rfl rfl ?_
    refine g_callVi (av := [.int x2]) (rest := [.int (σ.1 2 x3.toNatClampNeg)]) d_M_lookBack_48 Y_M_wanted lk_M_288 (by decide) rfl rfl I_M_wanted rfl (Nat.le_of_ble_eq_true rfl) rfl h (fun r2 σ2 h => ?_)
    refine g_icmp_ne (tgt := 93) d_M_lookBack_51 rfl (fun hc => ?_) (fun hc => ?_)
    · have h := h.1 hc
      exact h
    · have h := h.2 hc
      refine g_aload_n d_M_lookBack_54 0 rfl rfl ?_
      refine g_getV (x := .ref (v.2.2 32)) d_M_lookBack_55 fl_M_109 (by decide) rfl rfl rfl ?_
      refine g_iload_n d_M_lookBack_58 1 rfl rfl ?_
      refine g_iconst d_M_lookBack_59 (x := 1) (by decide) ?_
      refine g_iadd d_M_lookBack_60 ?_
      have hi3 := h.1
      have h := h.2
      refine g_lald (x := σ2.2.1 32 ((x2 + 1).toNatClampNeg)) d_M_lookBack_61 (by decide) rfl hi3 rfl ?_
      refine g_iload_n d_M_lookBack_62 2 rfl rfl ?_
      refine g_aload_n d_M_lookBack_63 0 rfl rfl ?_
      refine g_getV (x := .int (σ2.1 0 4)) d_M_lookBack_64 fl_M_188 (by decide) rfl rfl rfl ?_
      refine g_irem d_M_lookBack_67 h.1 ?_
      have h := h.2
      refine g_lshr d_M_lookBack_68 ?_
      refine g_lconst d_M_lookBack_69 (x := 1) (by decide) ?_
      refine g_land d_M_lookBack_70 ?_
      refine g_lconst d_M_lookBack_71 (x := 1) (by decide) ?_
      refine g_lcmp_ne (tgt := 93) d_M_lookBack_72 d_M_lookBack_73 rfl (fun hc => ?_) (fun hc => ?_)
      · have h := h.1 hc
        exact h
      · have h := h.2 hc
        refine g_aload_n d_M_lookBack_76 0 rfl rfl ?_
        refine g_getV (x := .ref (v.2.2 32)) d_M_lookBack_77 fl_M_109 (by decide) rfl rfl rfl ?_
        refine g_iload_n d_M_lookBack_80 1 rfl rfl ?_
        refine g_dup2_11 d_M_lookBack_81 rfl rfl ?_
        have hi4 := h.1
        have h := h.2
        refine g_lald (x := σ2.2.1 32 x2.toNatClampNeg) d_M_lookBack_82 (by decide) rfl hi4 rfl ?_
        refine g_lconst d_M_lookBack_83 (x := 1) (by decide) ?_
        refine g_iload_n d_M_lookBack_84 2 rfl rfl ?_
        refine g_aload_n d_M_lookBack_85 0 rfl rfl ?_
        refine g_getV (x := .int (σ2.1 0 2)) d_M_lookBack_86 fl_M_179 (by decide) rfl rfl rfl ?_
        refine g_idiv d_M_lookBack_89 h.1 ?_
        have h := h.2
        refine g_lshl d_M_lookBack_90 ?_
        refine g_lor d_M_lookBack_91 ?_
        have hi5 := h.1
        have h := h.2
        refine g_last d_M_lookBack_92 (by decide) rfl hi5 ?_
        exact h
set_option maxRecDepth 20000 in
set_option maxHeartbeats 1000000 in
theorem T_M_lookBack_93 {l : Launch} {v : gs_V} {n : Nat} {post : gs_S → Prop} {σ : gs_S} {x2 : Int32} {x3 : Int32} (h : G_M_lookBack_32 l v n post σ x2 (x3 + 1)) : G_M_lookBack_93 l v n post σ x2 x3 := by
  refine g_iinc (L' := [(3, .int (x3 + 1)), (0, .ref (v.2.2 0)), (2, .int x2)]) d_M_lookBack_93 2 rfl (by rfl) (by decide) rfl ?_
  refine g_goto (tgt := 32) d_M_lookBack_96 rfl ?_
  exact g_sub [1, 2, 0] rfl h
theorem E_M_lookBack {l : Launch} {v : gs_V} {n : Nat} {post : gs_S → Prop} {σ : gs_S} {x1 : Int32} (h : G_M_lookBack_0 l v n post σ x1) : gM l v lyM 33 me_M_lookBack (n + 1) [.ref (v.2.2 0), .int x1] σ (qV v lyM 33 post) := gM_of (by decide +kernel) (Nat.le_of_ble_eq_true rfl) h
/-! LineRulesModel.losesSomewhere -/
theorem d_M_losesSomewhere_0 : decode me_M_losesSomewhere.2.1 0 = .ok (.iconst 0, 1) := by decide +kernel
theorem d_M_losesSomewhere_1 : decode me_M_losesSomewhere.2.1 1 = .ok (.istore_n 1, 1) := by decide +kernel
theorem d_M_losesSomewhere_2 : decode me_M_losesSomewhere.2.1 2 = .ok (.iload_n 1, 1) := by decide +kernel
theorem d_M_losesSomewhere_3 : decode me_M_losesSomewhere.2.1 3 = .ok (.sipush 4096, 3) := by decide +kernel
theorem d_M_losesSomewhere_6 : decode me_M_losesSomewhere.2.1 6 = .ok (.if_icmp .ge 16, 3) := by decide +kernel
theorem d_M_losesSomewhere_9 : decode me_M_losesSomewhere.2.1 9 = .ok (.aload_n 0, 1) := by decide +kernel
theorem d_M_losesSomewhere_10 : decode me_M_losesSomewhere.2.1 10 = .ok (.getfield 69, 3) := by decide +kernel
theorem d_M_losesSomewhere_13 : decode me_M_losesSomewhere.2.1 13 = .ok (.iload_n 1, 1) := by decide +kernel
theorem d_M_losesSomewhere_14 : decode me_M_losesSomewhere.2.1 14 = .ok (.iconst 0, 1) := by decide +kernel
theorem d_M_losesSomewhere_15 : decode me_M_losesSomewhere.2.1 15 = .ok (.bastore, 1) := by decide +kernel
theorem d_M_losesSomewhere_16 : decode me_M_losesSomewhere.2.1 16 = .ok (.iinc 1 1, 3) := by decide +kernel
theorem d_M_losesSomewhere_19 : decode me_M_losesSomewhere.2.1 19 = .ok (.goto (-17), 3) := by decide +kernel
theorem d_M_losesSomewhere_22 : decode me_M_losesSomewhere.2.1 22 = .ok (.iconst 1, 1) := by decide +kernel
theorem d_M_losesSomewhere_23 : decode me_M_losesSomewhere.2.1 23 = .ok (.istore_n 1, 1) := by decide +kernel
theorem d_M_losesSomewhere_24 : decode me_M_losesSomewhere.2.1 24 = .ok (.iload_n 1, 1) := by decide +kernel
theorem d_M_losesSomewhere_25 : decode me_M_losesSomewhere.2.1 25 = .ok (.ifCond .eq 95, 3) := by decide +kernel
theorem d_M_losesSomewhere_28 : decode me_M_losesSomewhere.2.1 28 = .ok (.iconst 0, 1) := by decide +kernel
theorem d_M_losesSomewhere_29 : decode me_M_losesSomewhere.2.1 29 = .ok (.istore_n 1, 1) := by decide +kernel
theorem d_M_losesSomewhere_30 : decode me_M_losesSomewhere.2.1 30 = .ok (.iconst 0, 1) := by decide +kernel
theorem d_M_losesSomewhere_31 : decode me_M_losesSomewhere.2.1 31 = .ok (.istore_n 2, 1) := by decide +kernel
theorem d_M_losesSomewhere_32 : decode me_M_losesSomewhere.2.1 32 = .ok (.iload_n 2, 1) := by decide +kernel
theorem d_M_losesSomewhere_33 : decode me_M_losesSomewhere.2.1 33 = .ok (.aload_n 0, 1) := by decide +kernel
theorem d_M_losesSomewhere_34 : decode me_M_losesSomewhere.2.1 34 = .ok (.getfield 188, 3) := by decide +kernel
theorem d_M_losesSomewhere_37 : decode me_M_losesSomewhere.2.1 37 = .ok (.if_icmp .ge 80, 3) := by decide +kernel
theorem d_M_losesSomewhere_40 : decode me_M_losesSomewhere.2.1 40 = .ok (.iconst 0, 1) := by decide +kernel
theorem d_M_losesSomewhere_41 : decode me_M_losesSomewhere.2.1 41 = .ok (.istore_n 3, 1) := by decide +kernel
theorem d_M_losesSomewhere_42 : decode me_M_losesSomewhere.2.1 42 = .ok (.iload_n 3, 1) := by decide +kernel
theorem d_M_losesSomewhere_43 : decode me_M_losesSomewhere.2.1 43 = .ok (.aload_n 0, 1) := by decide +kernel
theorem d_M_losesSomewhere_44 : decode me_M_losesSomewhere.2.1 44 = .ok (.getfield 188, 3) := by decide +kernel
theorem d_M_losesSomewhere_47 : decode me_M_losesSomewhere.2.1 47 = .ok (.if_icmp .ge 64, 3) := by decide +kernel
theorem d_M_losesSomewhere_50 : decode me_M_losesSomewhere.2.1 50 = .ok (.iload_n 2, 1) := by decide +kernel
theorem d_M_losesSomewhere_51 : decode me_M_losesSomewhere.2.1 51 = .ok (.iload_n 3, 1) := by decide +kernel
theorem d_M_losesSomewhere_52 : decode me_M_losesSomewhere.2.1 52 = .ok (.if_icmp .eq 53, 3) := by decide +kernel
theorem d_M_losesSomewhere_55 : decode me_M_losesSomewhere.2.1 55 = .ok (.aload_n 0, 1) := by decide +kernel
theorem d_M_losesSomewhere_56 : decode me_M_losesSomewhere.2.1 56 = .ok (.getfield 69, 3) := by decide +kernel
theorem d_M_losesSomewhere_59 : decode me_M_losesSomewhere.2.1 59 = .ok (.bipush 64, 2) := by decide +kernel
theorem d_M_losesSomewhere_61 : decode me_M_losesSomewhere.2.1 61 = .ok (.iload_n 2, 1) := by decide +kernel
theorem d_M_losesSomewhere_62 : decode me_M_losesSomewhere.2.1 62 = .ok (.imul, 1) := by decide +kernel
theorem d_M_losesSomewhere_63 : decode me_M_losesSomewhere.2.1 63 = .ok (.iload_n 3, 1) := by decide +kernel
theorem d_M_losesSomewhere_64 : decode me_M_losesSomewhere.2.1 64 = .ok (.iadd, 1) := by decide +kernel
theorem d_M_losesSomewhere_65 : decode me_M_losesSomewhere.2.1 65 = .ok (.baload, 1) := by decide +kernel
theorem d_M_losesSomewhere_66 : decode me_M_losesSomewhere.2.1 66 = .ok (.ifCond .ne 39, 3) := by decide +kernel
theorem d_M_losesSomewhere_69 : decode me_M_losesSomewhere.2.1 69 = .ok (.aload_n 0, 1) := by decide +kernel
theorem d_M_losesSomewhere_70 : decode me_M_losesSomewhere.2.1 70 = .ok (.iload_n 2, 1) := by decide +kernel
theorem d_M_losesSomewhere_71 : decode me_M_losesSomewhere.2.1 71 = .ok (.iload_n 3, 1) := by decide +kernel
theorem d_M_losesSomewhere_72 : decode me_M_losesSomewhere.2.1 72 = .ok (.invokevirtual 216, 3) := by decide +kernel
theorem d_M_losesSomewhere_75 : decode me_M_losesSomewhere.2.1 75 = .ok (.ifCond .eq 30, 3) := by decide +kernel
theorem d_M_losesSomewhere_78 : decode me_M_losesSomewhere.2.1 78 = .ok (.aload_n 0, 1) := by decide +kernel
theorem d_M_losesSomewhere_79 : decode me_M_losesSomewhere.2.1 79 = .ok (.getfield 69, 3) := by decide +kernel
theorem d_M_losesSomewhere_82 : decode me_M_losesSomewhere.2.1 82 = .ok (.bipush 64, 2) := by decide +kernel
theorem d_M_losesSomewhere_84 : decode me_M_losesSomewhere.2.1 84 = .ok (.iload_n 2, 1) := by decide +kernel
theorem d_M_losesSomewhere_85 : decode me_M_losesSomewhere.2.1 85 = .ok (.imul, 1) := by decide +kernel
theorem d_M_losesSomewhere_86 : decode me_M_losesSomewhere.2.1 86 = .ok (.iload_n 3, 1) := by decide +kernel
theorem d_M_losesSomewhere_87 : decode me_M_losesSomewhere.2.1 87 = .ok (.iadd, 1) := by decide +kernel
theorem d_M_losesSomewhere_88 : decode me_M_losesSomewhere.2.1 88 = .ok (.iconst 1, 1) := by decide +kernel
theorem d_M_losesSomewhere_89 : decode me_M_losesSomewhere.2.1 89 = .ok (.bastore, 1) := by decide +kernel
theorem d_M_losesSomewhere_90 : decode me_M_losesSomewhere.2.1 90 = .ok (.iconst 1, 1) := by decide +kernel
theorem d_M_losesSomewhere_91 : decode me_M_losesSomewhere.2.1 91 = .ok (.istore_n 1, 1) := by decide +kernel
theorem d_M_losesSomewhere_92 : decode me_M_losesSomewhere.2.1 92 = .ok (.aload_n 0, 1) := by decide +kernel
theorem d_M_losesSomewhere_93 : decode me_M_losesSomewhere.2.1 93 = .ok (.iload_n 2, 1) := by decide +kernel
theorem d_M_losesSomewhere_94 : decode me_M_losesSomewhere.2.1 94 = .ok (.iload_n 3, 1) := by decide +kernel
theorem d_M_losesSomewhere_95 : decode me_M_losesSomewhere.2.1 95 = .ok (.iconst 0, 1) := by decide +kernel
theorem d_M_losesSomewhere_96 : decode me_M_losesSomewhere.2.1 96 = .ok (.iconst 1, 1) := by decide +kernel
theorem d_M_losesSomewhere_97 : decode me_M_losesSomewhere.2.1 97 = .ok (.invokevirtual 219, 3) := by decide +kernel
theorem d_M_losesSomewhere_100 : decode me_M_losesSomewhere.2.1 100 = .ok (.ifCond .eq 5, 3) := by decide +kernel
theorem d_M_losesSomewhere_103 : decode me_M_losesSomewhere.2.1 103 = .ok (.iconst 1, 1) := by decide +kernel
theorem d_M_losesSomewhere_104 : decode me_M_losesSomewhere.2.1 104 = .ok (.ireturn, 1) := by decide +kernel
theorem d_M_losesSomewhere_105 : decode me_M_losesSomewhere.2.1 105 = .ok (.iinc 3 1, 3) := by decide +kernel
theorem d_M_losesSomewhere_108 : decode me_M_losesSomewhere.2.1 108 = .ok (.goto (-66), 3) := by decide +kernel
theorem d_M_losesSomewhere_111 : decode me_M_losesSomewhere.2.1 111 = .ok (.iinc 2 1, 3) := by decide +kernel
theorem d_M_losesSomewhere_114 : decode me_M_losesSomewhere.2.1 114 = .ok (.goto (-82), 3) := by decide +kernel
theorem d_M_losesSomewhere_117 : decode me_M_losesSomewhere.2.1 117 = .ok (.goto (-93), 3) := by decide +kernel
theorem d_M_losesSomewhere_120 : decode me_M_losesSomewhere.2.1 120 = .ok (.iconst 0, 1) := by decide +kernel
theorem d_M_losesSomewhere_121 : decode me_M_losesSomewhere.2.1 121 = .ok (.ireturn, 1) := by decide +kernel
abbrev G_M_losesSomewhere_0 (l : Launch) (v : gs_V) (n : Nat) (post : Int32 → gs_S → Prop) (σ : gs_S) : Prop := gG l v lyM 33 me_M_losesSomewhere n (qI v lyM 33 post) 0 [(0, .ref (v.2.2 0))] [] σ
abbrev G_M_losesSomewhere_2 (l : Launch) (v : gs_V) (n : Nat) (post : Int32 → gs_S → Prop) (σ : gs_S) (x1 : Int32) : Prop := gG l v lyM 33 me_M_losesSomewhere n (qI v lyM 33 post) 2 [(0, .ref (v.2.2 0)), (1, .int x1)] [] σ
abbrev G_M_losesSomewhere_24 (l : Launch) (v : gs_V) (n : Nat) (post : Int32 → gs_S → Prop) (σ : gs_S) (x1 : Int32) : Prop := gG l v lyM 33 me_M_losesSomewhere n (qI v lyM 33 post) 24 [(0, .ref (v.2.2 0)), (1, .int x1)] [] σ
abbrev G_M_losesSomewhere_32 (l : Launch) (v : gs_V) (n : Nat) (post : Int32 → gs_S → Prop) (σ : gs_S) (x1 : Int32) (x2 : Int32) : Prop := gG l v lyM 33 me_M_losesSomewhere n (qI v lyM 33 post) 32 [(0, .ref (v.2.2 0)), (1, .int x1), (2, .int x2)] [] σ
abbrev G_M_losesSomewhere_42 (l : Launch) (v : gs_V) (n : Nat) (post : Int32 → gs_S → Prop) (σ : gs_S) (x1 : Int32) (x2 : Int32) (x3 : Int32) : Prop := gG l v lyM 33 me_M_losesSomewhere n (qI v lyM 33 post) 42 [(0, .ref (v.2.2 0)), (1, .int x1), (2, .int x2), (3, .int x3)] [] σ
abbrev G_M_losesSomewhere_105 (l : Launch) (v : gs_V) (n : Nat) (post : Int32 → gs_S → Prop) (σ : gs_S) (x1 : Int32) (x2 : Int32) (x3 : Int32) : Prop := gG l v lyM 33 me_M_losesSomewhere n (qI v lyM 33 post) 105 [(0, .ref (v.2.2 0)), (1, .int x1), (2, .int x2), (3, .int x3)] [] σ
set_option maxRecDepth 20000 in
set_option maxHeartbeats 1000000 in
theorem T_M_losesSomewhere_0 {l : Launch} {v : gs_V} {n : Nat} {post : Int32 → gs_S → Prop} {σ : gs_S} (h : G_M_losesSomewhere_2 l v n post σ 0) : G_M_losesSomewhere_0 l v n post σ := by
  refine g_iconst d_M_losesSomewhere_0 (x := 0) (by decide) ?_
  refine g_istore_n (L' := [(1, .int 0), (0, .ref (v.2.2 0))]) d_M_losesSomewhere_1 rfl (by decide) rfl ?_
  exact g_sub [1, 0] rfl h
set_option maxRecDepth 20000 in
set_option maxHeartbeats 1000000 in
theorem T_M_losesSomewhere_2 {l : Launch} {v : gs_V} {n : Nat} {post : Int32 → gs_S → Prop} {σ : gs_S} {x1 : Int32} (h : ((4096 ≤ x1 → G_M_losesSomewhere_24 l v n post σ 1) ∧ (¬ 4096 ≤ x1 → vp_in x1 4096 ∧ G_M_losesSomewhere_2 l v n post (gs_pI σ 19 x1.toNatClampNeg 0) (x1 + 1)))) : G_M_losesSomewhere_2 l v n post σ x1 := by
  refine g_iload_n d_M_losesSomewhere_2 1 rfl rfl ?_
  refine g_sipush d_M_losesSomewhere_3 (x := 4096) (by decide) ?_
  refine g_icmp_ge (tgt := 22) d_M_losesSomewhere_6 rfl (fun hc => ?_) (fun hc => ?_)
  · have h := h.1 hc
    refine g_iconst d_M_losesSomewhere_22 (x := 1) (by decide) ?_
    refine g_istore_n (L' := [(1, .int 1), (0, .ref (v.2.2 0))]) d_M_losesSomewhere_23 rfl (by decide) rfl ?_
    exact g_sub [1, 0] rfl h
  · have h := h.2 hc
    refine g_aload_n d_M_losesSomewhere_9 0 rfl rfl ?_
    refine g_getV (x := .ref (v.2.2 19)) d_M_losesSomewhere_10 fl_M_69 (by decide) rfl rfl rfl ?_
    refine g_iload_n d_M_losesSomewhere_13 1 rfl rfl ?_
    refine g_iconst d_M_losesSomewhere_14 (x := 0) (by decide) ?_
    have hi1 := h.1
    have h := h.2
    refine g_zast d_M_losesSomewhere_15 (by decide) rfl hi1 ?_
    refine g_iinc (L' := [(1, .int (x1 + 1)), (0, .ref (v.2.2 0))]) d_M_losesSomewhere_16 1 rfl (by rfl) (by decide) rfl ?_
    refine g_goto (tgt := 2) d_M_losesSomewhere_19 rfl ?_
    exact g_sub [1, 0] rfl h
set_option maxRecDepth 20000 in
set_option maxHeartbeats 1000000 in
theorem T_M_losesSomewhere_24 {l : Launch} {v : gs_V} {n : Nat} {post : Int32 → gs_S → Prop} {σ : gs_S} {x1 : Int32} (h : ((x1 = 0 → post 0 σ) ∧ (¬ x1 = 0 → G_M_losesSomewhere_32 l v n post σ 0 0))) : G_M_losesSomewhere_24 l v n post σ x1 := by
  refine g_iload_n d_M_losesSomewhere_24 1 rfl rfl ?_
  refine g_if_eq (tgt := 120) d_M_losesSomewhere_25 rfl (fun hc => ?_) (fun hc => ?_)
  · have h := h.1 hc
    refine g_iconst d_M_losesSomewhere_120 (x := 0) (by decide) ?_
    exact g_zret d_M_losesSomewhere_121 rfl rfl h
  · have h := h.2 hc
    refine g_iconst d_M_losesSomewhere_28 (x := 0) (by decide) ?_
    refine g_istore_n (L' := [(1, .int 0), (0, .ref (v.2.2 0))]) d_M_losesSomewhere_29 rfl (by decide) rfl ?_
    refine g_iconst d_M_losesSomewhere_30 (x := 0) (by decide) ?_
    refine g_istore_n (L' := [(2, .int 0), (1, .int 0), (0, .ref (v.2.2 0))]) d_M_losesSomewhere_31 rfl (by decide) rfl ?_
    exact g_sub [2, 1, 0] rfl h
set_option maxRecDepth 20000 in
set_option maxHeartbeats 1000000 in
theorem T_M_losesSomewhere_32 {l : Launch} {v : gs_V} {n : Nat} {post : Int32 → gs_S → Prop} {σ : gs_S} {x1 : Int32} {x2 : Int32} (h : (((σ.1 0 4) ≤ x2 → G_M_losesSomewhere_24 l v n post σ x1) ∧ (¬ (σ.1 0 4) ≤ x2 → G_M_losesSomewhere_42 l v n post σ x1 x2 0))) : G_M_losesSomewhere_32 l v n post σ x1 x2 := by
  refine g_iload_n d_M_losesSomewhere_32 2 rfl rfl ?_
  refine g_aload_n d_M_losesSomewhere_33 0 rfl rfl ?_
  refine g_getV (x := .int (σ.1 0 4)) d_M_losesSomewhere_34 fl_M_188 (by decide) rfl rfl rfl ?_
  refine g_icmp_ge (tgt := 117) d_M_losesSomewhere_37 rfl (fun hc => ?_) (fun hc => ?_)
  · have h := h.1 hc
    refine g_goto (tgt := 24) d_M_losesSomewhere_117 rfl ?_
    exact g_sub [0, 1] rfl h
  · have h := h.2 hc
    refine g_iconst d_M_losesSomewhere_40 (x := 0) (by decide) ?_
    refine g_istore_n (L' := [(3, .int 0), (0, .ref (v.2.2 0)), (1, .int x1), (2, .int x2)]) d_M_losesSomewhere_41 rfl (by decide) rfl ?_
    exact g_sub [1, 2, 3, 0] rfl h
set_option maxRecDepth 20000 in
set_option maxHeartbeats 1000000 in
theorem T_M_losesSomewhere_42 {l : Launch} {v : gs_V} {n : Nat} {post : Int32 → gs_S → Prop} {σ : gs_S} {x1 : Int32} {x2 : Int32} {x3 : Int32} (h : (((σ.1 0 4) ≤ x3 → G_M_losesSomewhere_32 l v n post σ x1 (x2 + 1)) ∧ (¬ (σ.1 0 4) ≤ x3 → ((x2 = x3 → G_M_losesSomewhere_105 l v n post σ x1 x2 x3) ∧ (¬ x2 = x3 → vp_in ((64 * x2) + x3) 4096 ∧ ((¬ (σ.1 19 (((64 * x2) + x3).toNatClampNeg)) = 0 → G_M_losesSomewhere_105 l v n post σ x1 x2 x3) ∧ ((σ.1 19 (((64 * x2) + x3).toNatClampNeg)) = 0 → gM l v lyM 33 me_M_comesFrom n [.ref (v.2.2 0), .int x2, .int x3] σ (qI v lyM 33 (fun r2 σ2 => ((r2 = 0 → G_M_losesSomewhere_105 l v n post σ2 x1 x2 x3) ∧ (¬ r2 = 0 → vp_in ((64 * x2) + x3) 4096 ∧ gM l v lyM 33 me_M_leadsOn n [.ref (v.2.2 0), .int x2, .int x3, .int 0, .int 1] (gs_pI σ2 19 (((64 * x2) + x3).toNatClampNeg) 1) (qI v lyM 33 (fun r4 σ4 => ((r4 = 0 → G_M_losesSomewhere_105 l v n post σ4 1 x2 x3) ∧ (¬ r4 = 0 → post 1 σ4))))))))))))))) : G_M_losesSomewhere_42 l v n post σ x1 x2 x3 := by
  refine g_iload_n d_M_losesSomewhere_42 3 rfl rfl ?_
  refine g_aload_n d_M_losesSomewhere_43 0 rfl rfl ?_
  refine g_getV (x := .int (σ.1 0 4)) d_M_losesSomewhere_44 fl_M_188 (by decide) rfl rfl rfl ?_
  refine g_icmp_ge (tgt := 111) d_M_losesSomewhere_47 rfl (fun hc => ?_) (fun hc => ?_)
  · have h := h.1 hc
    refine g_iinc (L' := [(2, .int (x2 + 1)), (0, .ref (v.2.2 0)), (1, .int x1), (3, .int x3)]) d_M_losesSomewhere_111 2 rfl (by rfl) (by decide) rfl ?_
    refine g_goto (tgt := 32) d_M_losesSomewhere_114 rfl ?_
    exact g_sub [1, 2, 0] rfl h
  · have h := h.2 hc
    refine g_iload_n d_M_losesSomewhere_50 2 rfl rfl ?_
    refine g_iload_n d_M_losesSomewhere_51 3 rfl rfl ?_
    refine g_icmp_eq (tgt := 105) d_M_losesSomewhere_52 rfl (fun hc => ?_) (fun hc => ?_)
    · have h := h.1 hc
      exact h
    · have h := h.2 hc
      refine g_aload_n d_M_losesSomewhere_55 0 rfl rfl ?_
      refine g_getV (x := .ref (v.2.2 19)) d_M_losesSomewhere_56 fl_M_69 (by decide) rfl rfl rfl ?_
      refine g_bipush d_M_losesSomewhere_59 (x := 64) (by decide) ?_
      refine g_iload_n d_M_losesSomewhere_61 2 rfl rfl ?_
      refine g_imul d_M_losesSomewhere_62 ?_
      refine g_iload_n d_M_losesSomewhere_63 3 rfl rfl ?_
      refine g_iadd d_M_losesSomewhere_64 ?_
      have hi1 := h.1
      have h := h.2
      refine g_zald (x := σ.1 19 (((64 * x2) + x3).toNatClampNeg)) d_M_losesSomewhere_65 (by decide) rfl hi1 rfl ?_
      refine g_if_ne (tgt := 105) d_M_losesSomewhere_66 rfl (fun hc => ?_) (fun hc => ?_)
      · have h := h.1 hc
        exact h
      · have h := h.2 hc
        refine g_aload_n d_M_losesSomewhere_69 0 rfl rfl ?_
        refine g_iload_n d_M_losesSomewhere_70 2 rfl rfl ?_
        refine g_iload_n d_M_losesSomewhere_71 3 rfl rfl ?_
        refine g_callVi (av := [.int x2, .int x3]) (rest := []) d_M_losesSomewhere_72 Y_M_comesFrom lk_M_216 (by decide) rfl rfl I_M_comesFrom rfl (Nat.le_of_ble_eq_true rfl) rfl h (fun r2 σ2 h => ?_)
        refine g_if_eq (tgt := 105) d_M_losesSomewhere_75 rfl (fun hc => ?_) (fun hc => ?_)
        · have h := h.1 hc
          exact h
        · have h := h.2 hc
          refine g_aload_n d_M_losesSomewhere_78 0 rfl rfl ?_
          refine g_getV (x := .ref (v.2.2 19)) d_M_losesSomewhere_79 fl_M_69 (by decide) rfl rfl rfl ?_
          refine g_bipush d_M_losesSomewhere_82 (x := 64) (by decide) ?_
          refine g_iload_n d_M_losesSomewhere_84 2 rfl rfl ?_
          refine g_imul d_M_losesSomewhere_85 ?_
          refine g_iload_n d_M_losesSomewhere_86 3 rfl rfl ?_
          refine g_iadd d_M_losesSomewhere_87 ?_
          refine g_iconst d_M_losesSomewhere_88 (x := 1) (by decide) ?_
          have hi3 := h.1
          have h := h.2
          refine g_zast d_M_losesSomewhere_89 (by decide) rfl hi3 ?_
          refine g_iconst d_M_losesSomewhere_90 (x := 1) (by decide) ?_
          refine g_istore_n (L' := [(1, .int 1), (0, .ref (v.2.2 0)), (2, .int x2), (3, .int x3)]) d_M_losesSomewhere_91 rfl (by decide) rfl ?_
          refine g_aload_n d_M_losesSomewhere_92 1 rfl rfl ?_
          refine g_iload_n d_M_losesSomewhere_93 2 rfl rfl ?_
          refine g_iload_n d_M_losesSomewhere_94 3 rfl rfl ?_
          refine g_iconst d_M_losesSomewhere_95 (x := 0) (by decide) ?_
          refine g_iconst d_M_losesSomewhere_96 (x := 1) (by decide) ?_
          refine g_callVi (av := [.int x2, .int x3, .int 0, .int 1]) (rest := []) d_M_losesSomewhere_97 Y_M_leadsOn lk_M_219 (by decide) rfl rfl I_M_leadsOn rfl (Nat.le_of_ble_eq_true rfl) rfl h (fun r4 σ4 h => ?_)
          refine g_if_eq (tgt := 105) d_M_losesSomewhere_100 rfl (fun hc => ?_) (fun hc => ?_)
          · have h := h.1 hc
            exact g_sub [1, 0, 2, 3] rfl h
          · have h := h.2 hc
            refine g_iconst d_M_losesSomewhere_103 (x := 1) (by decide) ?_
            exact g_zret d_M_losesSomewhere_104 rfl rfl h
set_option maxRecDepth 20000 in
set_option maxHeartbeats 1000000 in
theorem T_M_losesSomewhere_105 {l : Launch} {v : gs_V} {n : Nat} {post : Int32 → gs_S → Prop} {σ : gs_S} {x1 : Int32} {x2 : Int32} {x3 : Int32} (h : G_M_losesSomewhere_42 l v n post σ x1 x2 (x3 + 1)) : G_M_losesSomewhere_105 l v n post σ x1 x2 x3 := by
  refine g_iinc (L' := [(3, .int (x3 + 1)), (0, .ref (v.2.2 0)), (1, .int x1), (2, .int x2)]) d_M_losesSomewhere_105 3 rfl (by rfl) (by decide) rfl ?_
  refine g_goto (tgt := 42) d_M_losesSomewhere_108 rfl ?_
  exact g_sub [1, 2, 3, 0] rfl h
theorem E_M_losesSomewhere {l : Launch} {v : gs_V} {n : Nat} {post : Int32 → gs_S → Prop} {σ : gs_S} (h : G_M_losesSomewhere_0 l v n post σ) : gM l v lyM 33 me_M_losesSomewhere (n + 1) [.ref (v.2.2 0)] σ (qI v lyM 33 post) := gM_of (by decide +kernel) (Nat.le_of_ble_eq_true rfl) h
/-! LineRulesModel.madeOf -/
theorem d_M_madeOf_0 : decode me_M_madeOf.2.1 0 = .ok (.iconst 0, 1) := by decide +kernel
theorem d_M_madeOf_1 : decode me_M_madeOf.2.1 1 = .ok (.istore_n 3, 1) := by decide +kernel
theorem d_M_madeOf_2 : decode me_M_madeOf.2.1 2 = .ok (.iload_n 2, 1) := by decide +kernel
theorem d_M_madeOf_3 : decode me_M_madeOf.2.1 3 = .ok (.iconst 1, 1) := by decide +kernel
theorem d_M_madeOf_4 : decode me_M_madeOf.2.1 4 = .ok (.isub, 1) := by decide +kernel
theorem d_M_madeOf_5 : decode me_M_madeOf.2.1 5 = .ok (.istore 4, 2) := by decide +kernel
theorem d_M_madeOf_7 : decode me_M_madeOf.2.1 7 = .ok (.iload 4, 2) := by decide +kernel
theorem d_M_madeOf_9 : decode me_M_madeOf.2.1 9 = .ok (.ifCond .lt 38, 3) := by decide +kernel
theorem d_M_madeOf_12 : decode me_M_madeOf.2.1 12 = .ok (.iload_n 3, 1) := by decide +kernel
theorem d_M_madeOf_13 : decode me_M_madeOf.2.1 13 = .ok (.aload_n 0, 1) := by decide +kernel
theorem d_M_madeOf_14 : decode me_M_madeOf.2.1 14 = .ok (.getfield 179, 3) := by decide +kernel
theorem d_M_madeOf_17 : decode me_M_madeOf.2.1 17 = .ok (.imul, 1) := by decide +kernel
theorem d_M_madeOf_18 : decode me_M_madeOf.2.1 18 = .ok (.aload_n 0, 1) := by decide +kernel
theorem d_M_madeOf_19 : decode me_M_madeOf.2.1 19 = .ok (.getfield 13, 3) := by decide +kernel
theorem d_M_madeOf_22 : decode me_M_madeOf.2.1 22 = .ok (.iload_n 1, 1) := by decide +kernel
theorem d_M_madeOf_23 : decode me_M_madeOf.2.1 23 = .ok (.aload_n 0, 1) := by decide +kernel
theorem d_M_madeOf_24 : decode me_M_madeOf.2.1 24 = .ok (.getfield 179, 3) := by decide +kernel
theorem d_M_madeOf_27 : decode me_M_madeOf.2.1 27 = .ok (.iload 4, 2) := by decide +kernel
theorem d_M_madeOf_29 : decode me_M_madeOf.2.1 29 = .ok (.invokestatic 147, 3) := by decide +kernel
theorem d_M_madeOf_32 : decode me_M_madeOf.2.1 32 = .ok (.idiv, 1) := by decide +kernel
theorem d_M_madeOf_33 : decode me_M_madeOf.2.1 33 = .ok (.aload_n 0, 1) := by decide +kernel
theorem d_M_madeOf_34 : decode me_M_madeOf.2.1 34 = .ok (.getfield 185, 3) := by decide +kernel
theorem d_M_madeOf_37 : decode me_M_madeOf.2.1 37 = .ok (.irem, 1) := by decide +kernel
theorem d_M_madeOf_38 : decode me_M_madeOf.2.1 38 = .ok (.iaload, 1) := by decide +kernel
theorem d_M_madeOf_39 : decode me_M_madeOf.2.1 39 = .ok (.iadd, 1) := by decide +kernel
theorem d_M_madeOf_40 : decode me_M_madeOf.2.1 40 = .ok (.istore_n 3, 1) := by decide +kernel
theorem d_M_madeOf_41 : decode me_M_madeOf.2.1 41 = .ok (.iinc 4 (-1), 3) := by decide +kernel
theorem d_M_madeOf_44 : decode me_M_madeOf.2.1 44 = .ok (.goto (-37), 3) := by decide +kernel
theorem d_M_madeOf_47 : decode me_M_madeOf.2.1 47 = .ok (.iload_n 3, 1) := by decide +kernel
theorem d_M_madeOf_48 : decode me_M_madeOf.2.1 48 = .ok (.ireturn, 1) := by decide +kernel
abbrev G_M_madeOf_0 (l : Launch) (v : gs_V) (n : Nat) (post : Int32 → gs_S → Prop) (σ : gs_S) (x1 : Int32) (x2 : Int32) : Prop := gG l v lyM 33 me_M_madeOf n (qI v lyM 33 post) 0 [(0, .ref (v.2.2 0)), (1, .int x1), (2, .int x2)] [] σ
abbrev G_M_madeOf_7 (l : Launch) (v : gs_V) (n : Nat) (post : Int32 → gs_S → Prop) (σ : gs_S) (x1 : Int32) (x3 : Int32) (x4 : Int32) : Prop := gG l v lyM 33 me_M_madeOf n (qI v lyM 33 post) 7 [(0, .ref (v.2.2 0)), (1, .int x1), (3, .int x3), (4, .int x4)] [] σ
set_option maxRecDepth 20000 in
set_option maxHeartbeats 1000000 in
theorem T_M_madeOf_0 {l : Launch} {v : gs_V} {n : Nat} {post : Int32 → gs_S → Prop} {σ : gs_S} {x1 : Int32} {x2 : Int32} (h : G_M_madeOf_7 l v n post σ x1 0 (x2 - 1)) : G_M_madeOf_0 l v n post σ x1 x2 := by
  refine g_iconst d_M_madeOf_0 (x := 0) (by decide) ?_
  refine g_istore_n (L' := [(3, .int 0), (0, .ref (v.2.2 0)), (1, .int x1), (2, .int x2)]) d_M_madeOf_1 rfl (by decide) rfl ?_
  refine g_iload_n d_M_madeOf_2 3 rfl rfl ?_
  refine g_iconst d_M_madeOf_3 (x := 1) (by decide) ?_
  refine g_isub d_M_madeOf_4 ?_
  refine g_istore (L' := [(4, .int (x2 - 1)), (3, .int 0), (0, .ref (v.2.2 0)), (1, .int x1), (2, .int x2)]) d_M_madeOf_5 (by decide) rfl ?_
  exact g_sub [2, 3, 1, 0] rfl h
set_option maxRecDepth 20000 in
set_option maxHeartbeats 1000000 in
theorem T_M_madeOf_7 {l : Launch} {v : gs_V} {n : Nat} {post : Int32 → gs_S → Prop} {σ : gs_S} {x1 : Int32} {x3 : Int32} {x4 : Int32} (h : ((x4 < 0 → post x3 σ) ∧ (¬ x4 < 0 → gM l v lyM 33 me_M_powerOf n [.int (σ.1 0 2), .int x4] σ (qI v lyM 33 (fun r1 σ1 => ¬ r1 = 0 ∧ ¬ (σ1.1 0 5) = 0 ∧ vp_in (jR (x1 / r1) (σ1.1 0 5)) 256 ∧ G_M_madeOf_7 l v n post σ1 x1 ((x3 * (σ.1 0 2)) + (σ1.1 2 ((jR (x1 / r1) (σ1.1 0 5)).toNatClampNeg))) (x4 + (-1))))))) : G_M_madeOf_7 l v n post σ x1 x3 x4 := by
  refine g_iload d_M_madeOf_7 3 rfl ?_
  refine g_if_lt (tgt := 47) d_M_madeOf_9 rfl (fun hc => ?_) (fun hc => ?_)
  · have h := h.1 hc
    refine g_iload_n d_M_madeOf_47 2 rfl rfl ?_
    exact g_iret d_M_madeOf_48 rfl h
  · have h := h.2 hc
    refine g_iload_n d_M_madeOf_12 2 rfl rfl ?_
    refine g_aload_n d_M_madeOf_13 0 rfl rfl ?_
    refine g_getV (x := .int (σ.1 0 2)) d_M_madeOf_14 fl_M_179 (by decide) rfl rfl rfl ?_
    refine g_imul d_M_madeOf_17 ?_
    refine g_aload_n d_M_madeOf_18 0 rfl rfl ?_
    refine g_getV (x := .ref (v.2.2 2)) d_M_madeOf_19 fl_M_13 (by decide) rfl rfl rfl ?_
    refine g_iload_n d_M_madeOf_22 1 rfl rfl ?_
    refine g_aload_n d_M_madeOf_23 0 rfl rfl ?_
    refine g_getV (x := .int (σ.1 0 2)) d_M_madeOf_24 fl_M_179 (by decide) rfl rfl rfl ?_
    refine g_iload d_M_madeOf_27 3 rfl ?_
    refine g_callSi (av := [.int (σ.1 0 2), .int x4]) (rest := [.int x1, .ref (v.2.2 2), .int (x3 * (σ.1 0 2))]) d_M_madeOf_29 Y_M_powerOf lk_M_147 I_M_powerOf rfl (Nat.le_of_ble_eq_true rfl) rfl h (fun r1 σ1 h => ?_)
    refine g_idiv d_M_madeOf_32 h.1 ?_
    have h := h.2
    refine g_aload_n d_M_madeOf_33 0 rfl rfl ?_
    refine g_getV (x := .int (σ1.1 0 5)) d_M_madeOf_34 fl_M_185 (by decide) rfl rfl rfl ?_
    refine g_irem d_M_madeOf_37 h.1 ?_
    have h := h.2
    have hi2 := h.1
    have h := h.2
    refine g_iald (x := σ1.1 2 ((jR (x1 / r1) (σ1.1 0 5)).toNatClampNeg)) d_M_madeOf_38 (by decide) rfl hi2 rfl ?_
    refine g_iadd d_M_madeOf_39 ?_
    refine g_istore_n (L' := [(3, .int ((x3 * (σ.1 0 2)) + (σ1.1 2 ((jR (x1 / r1) (σ1.1 0 5)).toNatClampNeg)))), (0, .ref (v.2.2 0)), (1, .int x1), (4, .int x4)]) d_M_madeOf_40 rfl (by decide) rfl ?_
    refine g_iinc (L' := [(4, .int (x4 + (-1))), (3, .int ((x3 * (σ.1 0 2)) + (σ1.1 2 ((jR (x1 / r1) (σ1.1 0 5)).toNatClampNeg)))), (0, .ref (v.2.2 0)), (1, .int x1)]) d_M_madeOf_41 3 rfl (by rfl) (by decide) rfl ?_
    refine g_goto (tgt := 7) d_M_madeOf_44 rfl ?_
    exact g_sub [2, 3, 1, 0] rfl h
theorem E_M_madeOf {l : Launch} {v : gs_V} {n : Nat} {post : Int32 → gs_S → Prop} {σ : gs_S} {x1 : Int32} {x2 : Int32} (h : G_M_madeOf_0 l v n post σ x1 x2) : gM l v lyM 33 me_M_madeOf (n + 1) [.ref (v.2.2 0), .int x1, .int x2] σ (qI v lyM 33 post) := gM_of (by decide +kernel) (Nat.le_of_ble_eq_true rfl) h
