/-! LineRulesModel.anyPair -/
theorem d_M_anyPair_0 : decode me_M_anyPair.2.1 0 = .ok (.iconst 0, 1) := by decide +kernel
theorem d_M_anyPair_1 : decode me_M_anyPair.2.1 1 = .ok (.istore_n 1, 1) := by decide +kernel
theorem d_M_anyPair_2 : decode me_M_anyPair.2.1 2 = .ok (.iload_n 1, 1) := by decide +kernel
theorem d_M_anyPair_3 : decode me_M_anyPair.2.1 3 = .ok (.sipush 4096, 3) := by decide +kernel
theorem d_M_anyPair_6 : decode me_M_anyPair.2.1 6 = .ok (.if_icmp .ge 53, 3) := by decide +kernel
theorem d_M_anyPair_9 : decode me_M_anyPair.2.1 9 = .ok (.aload_n 0, 1) := by decide +kernel
theorem d_M_anyPair_10 : decode me_M_anyPair.2.1 10 = .ok (.getfield 69, 3) := by decide +kernel
theorem d_M_anyPair_13 : decode me_M_anyPair.2.1 13 = .ok (.iload_n 1, 1) := by decide +kernel
theorem d_M_anyPair_14 : decode me_M_anyPair.2.1 14 = .ok (.iload_n 1, 1) := by decide +kernel
theorem d_M_anyPair_15 : decode me_M_anyPair.2.1 15 = .ok (.bipush 64, 2) := by decide +kernel
theorem d_M_anyPair_17 : decode me_M_anyPair.2.1 17 = .ok (.idiv, 1) := by decide +kernel
theorem d_M_anyPair_18 : decode me_M_anyPair.2.1 18 = .ok (.iload_n 1, 1) := by decide +kernel
theorem d_M_anyPair_19 : decode me_M_anyPair.2.1 19 = .ok (.bipush 64, 2) := by decide +kernel
theorem d_M_anyPair_21 : decode me_M_anyPair.2.1 21 = .ok (.irem, 1) := by decide +kernel
theorem d_M_anyPair_22 : decode me_M_anyPair.2.1 22 = .ok (.if_icmp .eq 29, 3) := by decide +kernel
theorem d_M_anyPair_25 : decode me_M_anyPair.2.1 25 = .ok (.iload_n 1, 1) := by decide +kernel
theorem d_M_anyPair_26 : decode me_M_anyPair.2.1 26 = .ok (.bipush 64, 2) := by decide +kernel
theorem d_M_anyPair_28 : decode me_M_anyPair.2.1 28 = .ok (.idiv, 1) := by decide +kernel
theorem d_M_anyPair_29 : decode me_M_anyPair.2.1 29 = .ok (.aload_n 0, 1) := by decide +kernel
theorem d_M_anyPair_30 : decode me_M_anyPair.2.1 30 = .ok (.getfield 188, 3) := by decide +kernel
theorem d_M_anyPair_33 : decode me_M_anyPair.2.1 33 = .ok (.if_icmp .ge 18, 3) := by decide +kernel
theorem d_M_anyPair_36 : decode me_M_anyPair.2.1 36 = .ok (.iload_n 1, 1) := by decide +kernel
theorem d_M_anyPair_37 : decode me_M_anyPair.2.1 37 = .ok (.bipush 64, 2) := by decide +kernel
theorem d_M_anyPair_39 : decode me_M_anyPair.2.1 39 = .ok (.irem, 1) := by decide +kernel
theorem d_M_anyPair_40 : decode me_M_anyPair.2.1 40 = .ok (.aload_n 0, 1) := by decide +kernel
theorem d_M_anyPair_41 : decode me_M_anyPair.2.1 41 = .ok (.getfield 188, 3) := by decide +kernel
theorem d_M_anyPair_44 : decode me_M_anyPair.2.1 44 = .ok (.if_icmp .ge 7, 3) := by decide +kernel
theorem d_M_anyPair_47 : decode me_M_anyPair.2.1 47 = .ok (.iconst 1, 1) := by decide +kernel
theorem d_M_anyPair_48 : decode me_M_anyPair.2.1 48 = .ok (.goto 4, 3) := by decide +kernel
theorem d_M_anyPair_51 : decode me_M_anyPair.2.1 51 = .ok (.iconst 0, 1) := by decide +kernel
theorem d_M_anyPair_52 : decode me_M_anyPair.2.1 52 = .ok (.bastore, 1) := by decide +kernel
theorem d_M_anyPair_53 : decode me_M_anyPair.2.1 53 = .ok (.iinc 1 1, 3) := by decide +kernel
theorem d_M_anyPair_56 : decode me_M_anyPair.2.1 56 = .ok (.goto (-54), 3) := by decide +kernel
theorem d_M_anyPair_59 : decode me_M_anyPair.2.1 59 = .ok (.iconst 1, 1) := by decide +kernel
theorem d_M_anyPair_60 : decode me_M_anyPair.2.1 60 = .ok (.istore_n 1, 1) := by decide +kernel
theorem d_M_anyPair_61 : decode me_M_anyPair.2.1 61 = .ok (.iload_n 1, 1) := by decide +kernel
theorem d_M_anyPair_62 : decode me_M_anyPair.2.1 62 = .ok (.ifCond .eq 88, 3) := by decide +kernel
theorem d_M_anyPair_65 : decode me_M_anyPair.2.1 65 = .ok (.iconst 0, 1) := by decide +kernel
theorem d_M_anyPair_66 : decode me_M_anyPair.2.1 66 = .ok (.istore_n 1, 1) := by decide +kernel
theorem d_M_anyPair_67 : decode me_M_anyPair.2.1 67 = .ok (.iconst 0, 1) := by decide +kernel
theorem d_M_anyPair_68 : decode me_M_anyPair.2.1 68 = .ok (.istore_n 2, 1) := by decide +kernel
theorem d_M_anyPair_69 : decode me_M_anyPair.2.1 69 = .ok (.iload_n 2, 1) := by decide +kernel
theorem d_M_anyPair_70 : decode me_M_anyPair.2.1 70 = .ok (.aload_n 0, 1) := by decide +kernel
theorem d_M_anyPair_71 : decode me_M_anyPair.2.1 71 = .ok (.getfield 188, 3) := by decide +kernel
theorem d_M_anyPair_74 : decode me_M_anyPair.2.1 74 = .ok (.if_icmp .ge 73, 3) := by decide +kernel
theorem d_M_anyPair_77 : decode me_M_anyPair.2.1 77 = .ok (.iconst 0, 1) := by decide +kernel
theorem d_M_anyPair_78 : decode me_M_anyPair.2.1 78 = .ok (.istore_n 3, 1) := by decide +kernel
theorem d_M_anyPair_79 : decode me_M_anyPair.2.1 79 = .ok (.iload_n 3, 1) := by decide +kernel
theorem d_M_anyPair_80 : decode me_M_anyPair.2.1 80 = .ok (.aload_n 0, 1) := by decide +kernel
theorem d_M_anyPair_81 : decode me_M_anyPair.2.1 81 = .ok (.getfield 188, 3) := by decide +kernel
theorem d_M_anyPair_84 : decode me_M_anyPair.2.1 84 = .ok (.if_icmp .ge 57, 3) := by decide +kernel
theorem d_M_anyPair_87 : decode me_M_anyPair.2.1 87 = .ok (.aload_n 0, 1) := by decide +kernel
theorem d_M_anyPair_88 : decode me_M_anyPair.2.1 88 = .ok (.getfield 69, 3) := by decide +kernel
theorem d_M_anyPair_91 : decode me_M_anyPair.2.1 91 = .ok (.bipush 64, 2) := by decide +kernel
theorem d_M_anyPair_93 : decode me_M_anyPair.2.1 93 = .ok (.iload_n 2, 1) := by decide +kernel
theorem d_M_anyPair_94 : decode me_M_anyPair.2.1 94 = .ok (.imul, 1) := by decide +kernel
theorem d_M_anyPair_95 : decode me_M_anyPair.2.1 95 = .ok (.iload_n 3, 1) := by decide +kernel
theorem d_M_anyPair_96 : decode me_M_anyPair.2.1 96 = .ok (.iadd, 1) := by decide +kernel
theorem d_M_anyPair_97 : decode me_M_anyPair.2.1 97 = .ok (.baload, 1) := by decide +kernel
theorem d_M_anyPair_98 : decode me_M_anyPair.2.1 98 = .ok (.ifCond .eq 37, 3) := by decide +kernel
theorem d_M_anyPair_101 : decode me_M_anyPair.2.1 101 = .ok (.aload_n 0, 1) := by decide +kernel
theorem d_M_anyPair_102 : decode me_M_anyPair.2.1 102 = .ok (.iload_n 2, 1) := by decide +kernel
theorem d_M_anyPair_103 : decode me_M_anyPair.2.1 103 = .ok (.iload_n 3, 1) := by decide +kernel
theorem d_M_anyPair_104 : decode me_M_anyPair.2.1 104 = .ok (.iconst 1, 1) := by decide +kernel
theorem d_M_anyPair_105 : decode me_M_anyPair.2.1 105 = .ok (.iconst 1, 1) := by decide +kernel
theorem d_M_anyPair_106 : decode me_M_anyPair.2.1 106 = .ok (.invokevirtual 219, 3) := by decide +kernel
theorem d_M_anyPair_109 : decode me_M_anyPair.2.1 109 = .ok (.ifCond .eq 12, 3) := by decide +kernel
theorem d_M_anyPair_112 : decode me_M_anyPair.2.1 112 = .ok (.aload_n 0, 1) := by decide +kernel
theorem d_M_anyPair_113 : decode me_M_anyPair.2.1 113 = .ok (.iload_n 2, 1) := by decide +kernel
theorem d_M_anyPair_114 : decode me_M_anyPair.2.1 114 = .ok (.iload_n 3, 1) := by decide +kernel
theorem d_M_anyPair_115 : decode me_M_anyPair.2.1 115 = .ok (.invokevirtual 216, 3) := by decide +kernel
theorem d_M_anyPair_118 : decode me_M_anyPair.2.1 118 = .ok (.ifCond .ne 17, 3) := by decide +kernel
theorem d_M_anyPair_121 : decode me_M_anyPair.2.1 121 = .ok (.aload_n 0, 1) := by decide +kernel
theorem d_M_anyPair_122 : decode me_M_anyPair.2.1 122 = .ok (.getfield 69, 3) := by decide +kernel
theorem d_M_anyPair_125 : decode me_M_anyPair.2.1 125 = .ok (.bipush 64, 2) := by decide +kernel
theorem d_M_anyPair_127 : decode me_M_anyPair.2.1 127 = .ok (.iload_n 2, 1) := by decide +kernel
theorem d_M_anyPair_128 : decode me_M_anyPair.2.1 128 = .ok (.imul, 1) := by decide +kernel
theorem d_M_anyPair_129 : decode me_M_anyPair.2.1 129 = .ok (.iload_n 3, 1) := by decide +kernel
theorem d_M_anyPair_130 : decode me_M_anyPair.2.1 130 = .ok (.iadd, 1) := by decide +kernel
theorem d_M_anyPair_131 : decode me_M_anyPair.2.1 131 = .ok (.iconst 0, 1) := by decide +kernel
theorem d_M_anyPair_132 : decode me_M_anyPair.2.1 132 = .ok (.bastore, 1) := by decide +kernel
theorem d_M_anyPair_133 : decode me_M_anyPair.2.1 133 = .ok (.iconst 1, 1) := by decide +kernel
theorem d_M_anyPair_134 : decode me_M_anyPair.2.1 134 = .ok (.istore_n 1, 1) := by decide +kernel
theorem d_M_anyPair_135 : decode me_M_anyPair.2.1 135 = .ok (.iinc 3 1, 3) := by decide +kernel
theorem d_M_anyPair_138 : decode me_M_anyPair.2.1 138 = .ok (.goto (-59), 3) := by decide +kernel
theorem d_M_anyPair_141 : decode me_M_anyPair.2.1 141 = .ok (.iinc 2 1, 3) := by decide +kernel
theorem d_M_anyPair_144 : decode me_M_anyPair.2.1 144 = .ok (.goto (-75), 3) := by decide +kernel
theorem d_M_anyPair_147 : decode me_M_anyPair.2.1 147 = .ok (.goto (-86), 3) := by decide +kernel
theorem d_M_anyPair_150 : decode me_M_anyPair.2.1 150 = .ok (.iconst 0, 1) := by decide +kernel
theorem d_M_anyPair_151 : decode me_M_anyPair.2.1 151 = .ok (.istore_n 2, 1) := by decide +kernel
theorem d_M_anyPair_152 : decode me_M_anyPair.2.1 152 = .ok (.iconst 0, 1) := by decide +kernel
theorem d_M_anyPair_153 : decode me_M_anyPair.2.1 153 = .ok (.istore_n 3, 1) := by decide +kernel
theorem d_M_anyPair_154 : decode me_M_anyPair.2.1 154 = .ok (.iload_n 3, 1) := by decide +kernel
theorem d_M_anyPair_155 : decode me_M_anyPair.2.1 155 = .ok (.sipush 4096, 3) := by decide +kernel
theorem d_M_anyPair_158 : decode me_M_anyPair.2.1 158 = .ok (.if_icmp .ge 28, 3) := by decide +kernel
theorem d_M_anyPair_161 : decode me_M_anyPair.2.1 161 = .ok (.iload_n 2, 1) := by decide +kernel
theorem d_M_anyPair_162 : decode me_M_anyPair.2.1 162 = .ok (.ifCond .ne 12, 3) := by decide +kernel
theorem d_M_anyPair_165 : decode me_M_anyPair.2.1 165 = .ok (.aload_n 0, 1) := by decide +kernel
theorem d_M_anyPair_166 : decode me_M_anyPair.2.1 166 = .ok (.getfield 69, 3) := by decide +kernel
theorem d_M_anyPair_169 : decode me_M_anyPair.2.1 169 = .ok (.iload_n 3, 1) := by decide +kernel
theorem d_M_anyPair_170 : decode me_M_anyPair.2.1 170 = .ok (.baload, 1) := by decide +kernel
theorem d_M_anyPair_171 : decode me_M_anyPair.2.1 171 = .ok (.ifCond .eq 7, 3) := by decide +kernel
theorem d_M_anyPair_174 : decode me_M_anyPair.2.1 174 = .ok (.iconst 1, 1) := by decide +kernel
theorem d_M_anyPair_175 : decode me_M_anyPair.2.1 175 = .ok (.goto 4, 3) := by decide +kernel
theorem d_M_anyPair_178 : decode me_M_anyPair.2.1 178 = .ok (.iconst 0, 1) := by decide +kernel
theorem d_M_anyPair_179 : decode me_M_anyPair.2.1 179 = .ok (.istore_n 2, 1) := by decide +kernel
theorem d_M_anyPair_180 : decode me_M_anyPair.2.1 180 = .ok (.iinc 3 1, 3) := by decide +kernel
theorem d_M_anyPair_183 : decode me_M_anyPair.2.1 183 = .ok (.goto (-29), 3) := by decide +kernel
theorem d_M_anyPair_186 : decode me_M_anyPair.2.1 186 = .ok (.iload_n 2, 1) := by decide +kernel
theorem d_M_anyPair_187 : decode me_M_anyPair.2.1 187 = .ok (.ireturn, 1) := by decide +kernel
abbrev G_M_anyPair_0 (l : Launch) (v : gs_V) (n : Nat) (post : Int32 → gs_S → Prop) (σ : gs_S) : Prop := gG l v lyM 33 me_M_anyPair n (qI v lyM 33 post) 0 [(0, .ref (v.2.2 0))] [] σ
abbrev G_M_anyPair_2 (l : Launch) (v : gs_V) (n : Nat) (post : Int32 → gs_S → Prop) (σ : gs_S) (x1 : Int32) : Prop := gG l v lyM 33 me_M_anyPair n (qI v lyM 33 post) 2 [(0, .ref (v.2.2 0)), (1, .int x1)] [] σ
abbrev G_M_anyPair_51 (l : Launch) (v : gs_V) (n : Nat) (post : Int32 → gs_S → Prop) (σ : gs_S) (x1 : Int32) (s0 : Int32) : Prop := gG l v lyM 33 me_M_anyPair n (qI v lyM 33 post) 51 [(0, .ref (v.2.2 0)), (1, .int x1)] [.int s0, .ref (v.2.2 19)] σ
abbrev G_M_anyPair_52 (l : Launch) (v : gs_V) (n : Nat) (post : Int32 → gs_S → Prop) (σ : gs_S) (x1 : Int32) (s0 : Int32) (s1 : Int32) : Prop := gG l v lyM 33 me_M_anyPair n (qI v lyM 33 post) 52 [(0, .ref (v.2.2 0)), (1, .int x1)] [.int s0, .int s1, .ref (v.2.2 19)] σ
abbrev G_M_anyPair_61 (l : Launch) (v : gs_V) (n : Nat) (post : Int32 → gs_S → Prop) (σ : gs_S) (x1 : Int32) : Prop := gG l v lyM 33 me_M_anyPair n (qI v lyM 33 post) 61 [(0, .ref (v.2.2 0)), (1, .int x1)] [] σ
abbrev G_M_anyPair_69 (l : Launch) (v : gs_V) (n : Nat) (post : Int32 → gs_S → Prop) (σ : gs_S) (x1 : Int32) (x2 : Int32) : Prop := gG l v lyM 33 me_M_anyPair n (qI v lyM 33 post) 69 [(0, .ref (v.2.2 0)), (1, .int x1), (2, .int x2)] [] σ
abbrev G_M_anyPair_79 (l : Launch) (v : gs_V) (n : Nat) (post : Int32 → gs_S → Prop) (σ : gs_S) (x1 : Int32) (x2 : Int32) (x3 : Int32) : Prop := gG l v lyM 33 me_M_anyPair n (qI v lyM 33 post) 79 [(0, .ref (v.2.2 0)), (1, .int x1), (2, .int x2), (3, .int x3)] [] σ
abbrev G_M_anyPair_121 (l : Launch) (v : gs_V) (n : Nat) (post : Int32 → gs_S → Prop) (σ : gs_S) (x2 : Int32) (x3 : Int32) : Prop := gG l v lyM 33 me_M_anyPair n (qI v lyM 33 post) 121 [(0, .ref (v.2.2 0)), (2, .int x2), (3, .int x3)] [] σ
abbrev G_M_anyPair_135 (l : Launch) (v : gs_V) (n : Nat) (post : Int32 → gs_S → Prop) (σ : gs_S) (x1 : Int32) (x2 : Int32) (x3 : Int32) : Prop := gG l v lyM 33 me_M_anyPair n (qI v lyM 33 post) 135 [(0, .ref (v.2.2 0)), (1, .int x1), (2, .int x2), (3, .int x3)] [] σ
abbrev G_M_anyPair_154 (l : Launch) (v : gs_V) (n : Nat) (post : Int32 → gs_S → Prop) (σ : gs_S) (x2 : Int32) (x3 : Int32) : Prop := gG l v lyM 33 me_M_anyPair n (qI v lyM 33 post) 154 [(0, .ref (v.2.2 0)), (2, .int x2), (3, .int x3)] [] σ
abbrev G_M_anyPair_174 (l : Launch) (v : gs_V) (n : Nat) (post : Int32 → gs_S → Prop) (σ : gs_S) (x3 : Int32) : Prop := gG l v lyM 33 me_M_anyPair n (qI v lyM 33 post) 174 [(0, .ref (v.2.2 0)), (3, .int x3)] [] σ
abbrev G_M_anyPair_179 (l : Launch) (v : gs_V) (n : Nat) (post : Int32 → gs_S → Prop) (σ : gs_S) (x3 : Int32) (s0 : Int32) : Prop := gG l v lyM 33 me_M_anyPair n (qI v lyM 33 post) 179 [(0, .ref (v.2.2 0)), (3, .int x3)] [.int s0] σ
set_option maxRecDepth 20000 in
set_option maxHeartbeats 1000000 in
theorem T_M_anyPair_0 {l : Launch} {v : gs_V} {n : Nat} {post : Int32 → gs_S → Prop} {σ : gs_S} (h : G_M_anyPair_2 l v n post σ 0) : G_M_anyPair_0 l v n post σ := by
  refine g_iconst d_M_anyPair_0 (x := 0) (by decide) ?_
  refine g_istore_n (L' := [(1, .int 0), (0, .ref (v.2.2 0))]) d_M_anyPair_1 rfl (by decide) rfl ?_
  exact g_sub [1, 0] rfl h
set_option maxRecDepth 20000 in
set_option maxHeartbeats 1000000 in
theorem T_M_anyPair_2 {l : Launch} {v : gs_V} {n : Nat} {post : Int32 → gs_S → Prop} {σ : gs_S} {x1 : Int32} (h : ((4096 ≤ x1 → G_M_anyPair_61 l v n post σ 1) ∧ (¬ 4096 ≤ x1 → (((x1 / 64) = (jR x1 64) → G_M_anyPair_51 l v n post σ x1 x1) ∧ (¬ (x1 / 64) = (jR x1 64) → (((σ.1 0 4) ≤ (x1 / 64) → G_M_anyPair_51 l v n post σ x1 x1) ∧ (¬ (σ.1 0 4) ≤ (x1 / 64) → (((σ.1 0 4) ≤ (jR x1 64) → G_M_anyPair_51 l v n post σ x1 x1) ∧ (¬ (σ.1 0 4) ≤ (jR x1 64) → G_M_anyPair_52 l v n post σ x1 1 x1))))))))) : G_M_anyPair_2 l v n post σ x1 := by
  refine g_iload_n d_M_anyPair_2 1 rfl rfl ?_
  refine g_sipush d_M_anyPair_3 (x := 4096) (by decide) ?_
  refine g_icmp_ge (tgt := 59) d_M_anyPair_6 rfl (fun hc => ?_) (fun hc => ?_)
  · have h := h.1 hc
    refine g_iconst d_M_anyPair_59 (x := 1) (by decide) ?_
    refine g_istore_n (L' := [(1, .int 1), (0, .ref (v.2.2 0))]) d_M_anyPair_60 rfl (by decide) rfl ?_
    exact g_sub [1, 0] rfl h
  · have h := h.2 hc
    refine g_aload_n d_M_anyPair_9 0 rfl rfl ?_
    refine g_getV (x := .ref (v.2.2 19)) d_M_anyPair_10 fl_M_69 (by decide) rfl rfl rfl ?_
    refine g_iload_n d_M_anyPair_13 1 rfl rfl ?_
    refine g_iload_n d_M_anyPair_14 1 rfl rfl ?_
    refine g_bipush d_M_anyPair_15 (x := 64) (by decide) ?_
    refine g_idiv d_M_anyPair_17 (by decide) ?_
    refine g_iload_n d_M_anyPair_18 1 rfl rfl ?_
    refine g_bipush d_M_anyPair_19 (x := 64) (by decide) ?_
    refine g_irem d_M_anyPair_21 (by decide) ?_
    refine g_icmp_eq (tgt := 51) d_M_anyPair_22 rfl (fun hc => ?_) (fun hc => ?_)
    · have h := h.1 hc
      exact h
    · have h := h.2 hc
      refine g_iload_n d_M_anyPair_25 1 rfl rfl ?_
      refine g_bipush d_M_anyPair_26 (x := 64) (by decide) ?_
      refine g_idiv d_M_anyPair_28 (by decide) ?_
      refine g_aload_n d_M_anyPair_29 0 rfl rfl ?_
      refine g_getV (x := .int (σ.1 0 4)) d_M_anyPair_30 fl_M_188 (by decide) rfl rfl rfl ?_
      refine g_icmp_ge (tgt := 51) d_M_anyPair_33 rfl (fun hc => ?_) (fun hc => ?_)
      · have h := h.1 hc
        exact h
      · have h := h.2 hc
        refine g_iload_n d_M_anyPair_36 1 rfl rfl ?_
        refine g_bipush d_M_anyPair_37 (x := 64) (by decide) ?_
        refine g_irem d_M_anyPair_39 (by decide) ?_
        refine g_aload_n d_M_anyPair_40 0 rfl rfl ?_
        refine g_getV (x := .int (σ.1 0 4)) d_M_anyPair_41 fl_M_188 (by decide) rfl rfl rfl ?_
        refine g_icmp_ge (tgt := 51) d_M_anyPair_44 rfl (fun hc => ?_) (fun hc => ?_)
        · have h := h.1 hc
          exact h
        · have h := h.2 hc
          refine g_iconst d_M_anyPair_47 (x := 1) (by decide) ?_
          refine g_goto (tgt := 52) d_M_anyPair_48 rfl ?_
          exact h
set_option maxRecDepth 20000 in
set_option maxHeartbeats 1000000 in
theorem T_M_anyPair_51 {l : Launch} {v : gs_V} {n : Nat} {post : Int32 → gs_S → Prop} {σ : gs_S} {x1 : Int32} {s0 : Int32} (h : G_M_anyPair_52 l v n post σ x1 0 s0) : G_M_anyPair_51 l v n post σ x1 s0 := by
  refine g_iconst d_M_anyPair_51 (x := 0) (by decide) ?_
  exact h
set_option maxRecDepth 20000 in
set_option maxHeartbeats 1000000 in
theorem T_M_anyPair_52 {l : Launch} {v : gs_V} {n : Nat} {post : Int32 → gs_S → Prop} {σ : gs_S} {x1 : Int32} {s0 : Int32} {s1 : Int32} (h : vp_in s1 4096 ∧ G_M_anyPair_2 l v n post (gs_pI σ 19 s1.toNatClampNeg (vp_nar .boolean s0)) (x1 + 1)) : G_M_anyPair_52 l v n post σ x1 s0 s1 := by
  have hi1 := h.1
  have h := h.2
  refine g_zast d_M_anyPair_52 (by decide) rfl hi1 ?_
  refine g_iinc (L' := [(1, .int (x1 + 1)), (0, .ref (v.2.2 0))]) d_M_anyPair_53 1 rfl (by rfl) (by decide) rfl ?_
  refine g_goto (tgt := 2) d_M_anyPair_56 rfl ?_
  exact g_sub [1, 0] rfl h
set_option maxRecDepth 20000 in
set_option maxHeartbeats 1000000 in
theorem T_M_anyPair_61 {l : Launch} {v : gs_V} {n : Nat} {post : Int32 → gs_S → Prop} {σ : gs_S} {x1 : Int32} (h : ((x1 = 0 → G_M_anyPair_154 l v n post σ 0 0) ∧ (¬ x1 = 0 → G_M_anyPair_69 l v n post σ 0 0))) : G_M_anyPair_61 l v n post σ x1 := by
  refine g_iload_n d_M_anyPair_61 1 rfl rfl ?_
  refine g_if_eq (tgt := 150) d_M_anyPair_62 rfl (fun hc => ?_) (fun hc => ?_)
  · have h := h.1 hc
    refine g_iconst d_M_anyPair_150 (x := 0) (by decide) ?_
    refine g_istore_n (L' := [(2, .int 0), (0, .ref (v.2.2 0)), (1, .int x1)]) d_M_anyPair_151 rfl (by decide) rfl ?_
    refine g_iconst d_M_anyPair_152 (x := 0) (by decide) ?_
    refine g_istore_n (L' := [(3, .int 0), (2, .int 0), (0, .ref (v.2.2 0)), (1, .int x1)]) d_M_anyPair_153 rfl (by decide) rfl ?_
    exact g_sub [2, 1, 0] rfl h
  · have h := h.2 hc
    refine g_iconst d_M_anyPair_65 (x := 0) (by decide) ?_
    refine g_istore_n (L' := [(1, .int 0), (0, .ref (v.2.2 0))]) d_M_anyPair_66 rfl (by decide) rfl ?_
    refine g_iconst d_M_anyPair_67 (x := 0) (by decide) ?_
    refine g_istore_n (L' := [(2, .int 0), (1, .int 0), (0, .ref (v.2.2 0))]) d_M_anyPair_68 rfl (by decide) rfl ?_
    exact g_sub [2, 1, 0] rfl h
set_option maxRecDepth 20000 in
set_option maxHeartbeats 1000000 in
theorem T_M_anyPair_69 {l : Launch} {v : gs_V} {n : Nat} {post : Int32 → gs_S → Prop} {σ : gs_S} {x1 : Int32} {x2 : Int32} (h : (((σ.1 0 4) ≤ x2 → G_M_anyPair_61 l v n post σ x1) ∧ (¬ (σ.1 0 4) ≤ x2 → G_M_anyPair_79 l v n post σ x1 x2 0))) : G_M_anyPair_69 l v n post σ x1 x2 := by
  refine g_iload_n d_M_anyPair_69 2 rfl rfl ?_
  refine g_aload_n d_M_anyPair_70 0 rfl rfl ?_
  refine g_getV (x := .int (σ.1 0 4)) d_M_anyPair_71 fl_M_188 (by decide) rfl rfl rfl ?_
  refine g_icmp_ge (tgt := 147) d_M_anyPair_74 rfl (fun hc => ?_) (fun hc => ?_)
  · have h := h.1 hc
    refine g_goto (tgt := 61) d_M_anyPair_147 rfl ?_
    exact g_sub [0, 1] rfl h
  · have h := h.2 hc
    refine g_iconst d_M_anyPair_77 (x := 0) (by decide) ?_
    refine g_istore_n (L' := [(3, .int 0), (0, .ref (v.2.2 0)), (1, .int x1), (2, .int x2)]) d_M_anyPair_78 rfl (by decide) rfl ?_
    exact g_sub [1, 2, 3, 0] rfl h
set_option maxRecDepth 20000 in
set_option maxHeartbeats 1000000 in
theorem T_M_anyPair_79 {l : Launch} {v : gs_V} {n : Nat} {post : Int32 → gs_S → Prop} {σ : gs_S} {x1 : Int32} {x2 : Int32} {x3 : Int32} (h : (((σ.1 0 4) ≤ x3 → G_M_anyPair_69 l v n post σ x1 (x2 + 1)) ∧ (¬ (σ.1 0 4) ≤ x3 → vp_in ((64 * x2) + x3) 4096 ∧ (((σ.1 19 (((64 * x2) + x3).toNatClampNeg)) = 0 → G_M_anyPair_135 l v n post σ x1 x2 x3) ∧ (¬ (σ.1 19 (((64 * x2) + x3).toNatClampNeg)) = 0 → gM l v lyM 33 me_M_leadsOn n [.ref (v.2.2 0), .int x2, .int x3, .int 1, .int 1] σ (qI v lyM 33 (fun r2 σ2 => ((r2 = 0 → G_M_anyPair_121 l v n post σ2 x2 x3) ∧ (¬ r2 = 0 → gM l v lyM 33 me_M_comesFrom n [.ref (v.2.2 0), .int x2, .int x3] σ2 (qI v lyM 33 (fun r3 σ3 => ((¬ r3 = 0 → G_M_anyPair_135 l v n post σ3 x1 x2 x3) ∧ (r3 = 0 → G_M_anyPair_121 l v n post σ3 x2 x3))))))))))))) : G_M_anyPair_79 l v n post σ x1 x2 x3 := by
  refine g_iload_n d_M_anyPair_79 3 rfl rfl ?_
  refine g_aload_n d_M_anyPair_80 0 rfl rfl ?_
  refine g_getV (x := .int (σ.1 0 4)) d_M_anyPair_81 fl_M_188 (by decide) rfl rfl rfl ?_
  refine g_icmp_ge (tgt := 141) d_M_anyPair_84 rfl (fun hc => ?_) (fun hc => ?_)
  · have h := h.1 hc
    refine g_iinc (L' := [(2, .int (x2 + 1)), (0, .ref (v.2.2 0)), (1, .int x1), (3, .int x3)]) d_M_anyPair_141 2 rfl (by rfl) (by decide) rfl ?_
    refine g_goto (tgt := 69) d_M_anyPair_144 rfl ?_
    exact g_sub [1, 2, 0] rfl h
  · have h := h.2 hc
    refine g_aload_n d_M_anyPair_87 0 rfl rfl ?_
    refine g_getV (x := .ref (v.2.2 19)) d_M_anyPair_88 fl_M_69 (by decide) rfl rfl rfl ?_
    refine g_bipush d_M_anyPair_91 (x := 64) (by decide) ?_
    refine g_iload_n d_M_anyPair_93 2 rfl rfl ?_
    refine g_imul d_M_anyPair_94 ?_
    refine g_iload_n d_M_anyPair_95 3 rfl rfl ?_
    refine g_iadd d_M_anyPair_96 ?_
    have hi1 := h.1
    have h := h.2
    refine g_zald (x := σ.1 19 (((64 * x2) + x3).toNatClampNeg)) d_M_anyPair_97 (by decide) rfl hi1 rfl ?_
    refine g_if_eq (tgt := 135) d_M_anyPair_98 rfl (fun hc => ?_) (fun hc => ?_)
    · have h := h.1 hc
      exact h
    · have h := h.2 hc
      refine g_aload_n d_M_anyPair_101 0 rfl rfl ?_
      refine g_iload_n d_M_anyPair_102 2 rfl rfl ?_
      refine g_iload_n d_M_anyPair_103 3 rfl rfl ?_
      refine g_iconst d_M_anyPair_104 (x := 1) (by decide) ?_
      refine g_iconst d_M_anyPair_105 (x := 1) (by decide) ?_
      refine g_callVi (av := [.int x2, .int x3, .int 1, .int 1]) (rest := []) d_M_anyPair_106 Y_M_leadsOn lk_M_219 (by decide) rfl rfl I_M_leadsOn rfl (Nat.le_of_ble_eq_true rfl) rfl h (fun r2 σ2 h => ?_)
      refine g_if_eq (tgt := 121) d_M_anyPair_109 rfl (fun hc => ?_) (fun hc => ?_)
      · have h := h.1 hc
        exact g_sub [0, 2, 3] rfl h
      · have h := h.2 hc
        refine g_aload_n d_M_anyPair_112 0 rfl rfl ?_
        refine g_iload_n d_M_anyPair_113 2 rfl rfl ?_
        refine g_iload_n d_M_anyPair_114 3 rfl rfl ?_
        refine g_callVi (av := [.int x2, .int x3]) (rest := []) d_M_anyPair_115 Y_M_comesFrom lk_M_216 (by decide) rfl rfl I_M_comesFrom rfl (Nat.le_of_ble_eq_true rfl) rfl h (fun r3 σ3 h => ?_)
        refine g_if_ne (tgt := 135) d_M_anyPair_118 rfl (fun hc => ?_) (fun hc => ?_)
        · have h := h.1 hc
          exact h
        · have h := h.2 hc
          exact g_sub [0, 2, 3] rfl h
set_option maxRecDepth 20000 in
set_option maxHeartbeats 1000000 in
theorem T_M_anyPair_121 {l : Launch} {v : gs_V} {n : Nat} {post : Int32 → gs_S → Prop} {σ : gs_S} {x2 : Int32} {x3 : Int32} (h : vp_in ((64 * x2) + x3) 4096 ∧ G_M_anyPair_135 l v n post (gs_pI σ 19 (((64 * x2) + x3).toNatClampNeg) 0) 1 x2 x3) : G_M_anyPair_121 l v n post σ x2 x3 := by
  refine g_aload_n d_M_anyPair_121 0 rfl rfl ?_
  refine g_getV (x := .ref (v.2.2 19)) d_M_anyPair_122 fl_M_69 (by decide) rfl rfl rfl ?_
  refine g_bipush d_M_anyPair_125 (x := 64) (by decide) ?_
  refine g_iload_n d_M_anyPair_127 1 rfl rfl ?_
  refine g_imul d_M_anyPair_128 ?_
  refine g_iload_n d_M_anyPair_129 2 rfl rfl ?_
  refine g_iadd d_M_anyPair_130 ?_
  refine g_iconst d_M_anyPair_131 (x := 0) (by decide) ?_
  have hi1 := h.1
  have h := h.2
  refine g_zast d_M_anyPair_132 (by decide) rfl hi1 ?_
  refine g_iconst d_M_anyPair_133 (x := 1) (by decide) ?_
  refine g_istore_n (L' := [(1, .int 1), (0, .ref (v.2.2 0)), (2, .int x2), (3, .int x3)]) d_M_anyPair_134 rfl (by decide) rfl ?_
  exact g_sub [1, 0, 2, 3] rfl h
set_option maxRecDepth 20000 in
set_option maxHeartbeats 1000000 in
theorem T_M_anyPair_135 {l : Launch} {v : gs_V} {n : Nat} {post : Int32 → gs_S → Prop} {σ : gs_S} {x1 : Int32} {x2 : Int32} {x3 : Int32} (h : G_M_anyPair_79 l v n post σ x1 x2 (x3 + 1)) : G_M_anyPair_135 l v n post σ x1 x2 x3 := by
  refine g_iinc (L' := [(3, .int (x3 + 1)), (0, .ref (v.2.2 0)), (1, .int x1), (2, .int x2)]) d_M_anyPair_135 3 rfl (by rfl) (by decide) rfl ?_
  refine g_goto (tgt := 79) d_M_anyPair_138 rfl ?_
  exact g_sub [1, 2, 3, 0] rfl h
set_option maxRecDepth 20000 in
set_option maxHeartbeats 1000000 in
theorem T_M_anyPair_154 {l : Launch} {v : gs_V} {n : Nat} {post : Int32 → gs_S → Prop} {σ : gs_S} {x2 : Int32} {x3 : Int32} (h : ((4096 ≤ x3 → narrow .boolean (.int x2) = .int x2 ∧ post x2 σ) ∧ (¬ 4096 ≤ x3 → ((¬ x2 = 0 → G_M_anyPair_174 l v n post σ x3) ∧ (x2 = 0 → vp_in x3 4096 ∧ (((σ.1 19 x3.toNatClampNeg) = 0 → G_M_anyPair_179 l v n post σ x3 0) ∧ (¬ (σ.1 19 x3.toNatClampNeg) = 0 → G_M_anyPair_174 l v n post σ x3))))))) : G_M_anyPair_154 l v n post σ x2 x3 := by
  refine g_iload_n d_M_anyPair_154 2 rfl rfl ?_
  refine g_sipush d_M_anyPair_155 (x := 4096) (by decide) ?_
  refine g_icmp_ge (tgt := 186) d_M_anyPair_158 rfl (fun hc => ?_) (fun hc => ?_)
  · have h := h.1 hc
    refine g_iload_n d_M_anyPair_186 1 rfl rfl ?_
    exact g_zret d_M_anyPair_187 rfl h.1 h.2
  · have h := h.2 hc
    refine g_iload_n d_M_anyPair_161 1 rfl rfl ?_
    refine g_if_ne (tgt := 174) d_M_anyPair_162 rfl (fun hc => ?_) (fun hc => ?_)
    · have h := h.1 hc
      exact g_sub [0, 2] rfl h
    · have h := h.2 hc
      refine g_aload_n d_M_anyPair_165 0 rfl rfl ?_
      refine g_getV (x := .ref (v.2.2 19)) d_M_anyPair_166 fl_M_69 (by decide) rfl rfl rfl ?_
      refine g_iload_n d_M_anyPair_169 2 rfl rfl ?_
      have hi1 := h.1
      have h := h.2
      refine g_zald (x := σ.1 19 x3.toNatClampNeg) d_M_anyPair_170 (by decide) rfl hi1 rfl ?_
      refine g_if_eq (tgt := 178) d_M_anyPair_171 rfl (fun hc => ?_) (fun hc => ?_)
      · have h := h.1 hc
        refine g_iconst d_M_anyPair_178 (x := 0) (by decide) ?_
        exact g_sub [0, 2] rfl h
      · have h := h.2 hc
        exact g_sub [0, 2] rfl h
set_option maxRecDepth 20000 in
set_option maxHeartbeats 1000000 in
theorem T_M_anyPair_174 {l : Launch} {v : gs_V} {n : Nat} {post : Int32 → gs_S → Prop} {σ : gs_S} {x3 : Int32} (h : G_M_anyPair_179 l v n post σ x3 1) : G_M_anyPair_174 l v n post σ x3 := by
  refine g_iconst d_M_anyPair_174 (x := 1) (by decide) ?_
  refine g_goto (tgt := 179) d_M_anyPair_175 rfl ?_
  exact h
set_option maxRecDepth 20000 in
set_option maxHeartbeats 1000000 in
theorem T_M_anyPair_179 {l : Launch} {v : gs_V} {n : Nat} {post : Int32 → gs_S → Prop} {σ : gs_S} {x3 : Int32} {s0 : Int32} (h : G_M_anyPair_154 l v n post σ s0 (x3 + 1)) : G_M_anyPair_179 l v n post σ x3 s0 := by
  refine g_istore_n (L' := [(2, .int s0), (0, .ref (v.2.2 0)), (3, .int x3)]) d_M_anyPair_179 rfl (by decide) rfl ?_
  refine g_iinc (L' := [(3, .int (x3 + 1)), (2, .int s0), (0, .ref (v.2.2 0))]) d_M_anyPair_180 2 rfl (by rfl) (by decide) rfl ?_
  refine g_goto (tgt := 154) d_M_anyPair_183 rfl ?_
  exact g_sub [2, 1, 0] rfl h
theorem E_M_anyPair {l : Launch} {v : gs_V} {n : Nat} {post : Int32 → gs_S → Prop} {σ : gs_S} (h : G_M_anyPair_0 l v n post σ) : gM l v lyM 33 me_M_anyPair (n + 1) [.ref (v.2.2 0)] σ (qI v lyM 33 post) := gM_of (by decide +kernel) (Nat.le_of_ble_eq_true rfl) h
/-! LineRulesModel.before -/
theorem d_M_before_0 : decode me_M_before.2.1 0 = .ok (.aload_n 0, 1) := by decide +kernel
theorem d_M_before_1 : decode me_M_before.2.1 1 = .ok (.getfield 179, 3) := by decide +kernel
theorem d_M_before_4 : decode me_M_before.2.1 4 = .ok (.ifCond .ne 5, 3) := by decide +kernel
theorem d_M_before_7 : decode me_M_before.2.1 7 = .ok (.iconst (-1), 1) := by decide +kernel
theorem d_M_before_8 : decode me_M_before.2.1 8 = .ok (.ireturn, 1) := by decide +kernel
theorem d_M_before_9 : decode me_M_before.2.1 9 = .ok (.aload_n 0, 1) := by decide +kernel
theorem d_M_before_10 : decode me_M_before.2.1 10 = .ok (.invokevirtual 308, 3) := by decide +kernel
theorem d_M_before_13 : decode me_M_before.2.1 13 = .ok (.aload_n 0, 1) := by decide +kernel
theorem d_M_before_14 : decode me_M_before.2.1 14 = .ok (.getfield 291, 3) := by decide +kernel
theorem d_M_before_17 : decode me_M_before.2.1 17 = .ok (.ifCond .eq 7, 3) := by decide +kernel
theorem d_M_before_20 : decode me_M_before.2.1 20 = .ok (.iconst 1, 1) := by decide +kernel
theorem d_M_before_21 : decode me_M_before.2.1 21 = .ok (.goto 4, 3) := by decide +kernel
theorem d_M_before_24 : decode me_M_before.2.1 24 = .ok (.iconst 0, 1) := by decide +kernel
theorem d_M_before_25 : decode me_M_before.2.1 25 = .ok (.ireturn, 1) := by decide +kernel
abbrev G_M_before_0 (l : Launch) (v : gs_V) (n : Nat) (post : Int32 → gs_S → Prop) (σ : gs_S) : Prop := gG l v lyM 33 me_M_before n (qI v lyM 33 post) 0 [(0, .ref (v.2.2 0))] [] σ
abbrev G_M_before_25 (l : Launch) (v : gs_V) (n : Nat) (post : Int32 → gs_S → Prop) (σ : gs_S) (s0 : Int32) : Prop := gG l v lyM 33 me_M_before n (qI v lyM 33 post) 25 [] [.int s0] σ
set_option maxRecDepth 20000 in
set_option maxHeartbeats 1000000 in
theorem T_M_before_0 {l : Launch} {v : gs_V} {n : Nat} {post : Int32 → gs_S → Prop} {σ : gs_S} (h : ((¬ (σ.1 0 2) = 0 → gM l v lyM 33 me_M_findBefore n [.ref (v.2.2 0)] σ (qV v lyM 33 (fun σ1 => (((σ1.1 0 48) = 0 → G_M_before_25 l v n post σ1 0) ∧ (¬ (σ1.1 0 48) = 0 → G_M_before_25 l v n post σ1 1))))) ∧ ((σ.1 0 2) = 0 → post ((-1)) σ))) : G_M_before_0 l v n post σ := by
  refine g_aload_n d_M_before_0 0 rfl rfl ?_
  refine g_getV (x := .int (σ.1 0 2)) d_M_before_1 fl_M_179 (by decide) rfl rfl rfl ?_
  refine g_if_ne (tgt := 9) d_M_before_4 rfl (fun hc => ?_) (fun hc => ?_)
  · have h := h.1 hc
    refine g_aload_n d_M_before_9 0 rfl rfl ?_
    refine g_callVv (av := []) (rest := []) d_M_before_10 Y_M_findBefore lk_M_308 (by decide) rfl rfl I_M_findBefore rfl (Nat.le_of_ble_eq_true rfl) rfl h (fun σ1 h => ?_)
    refine g_aload_n d_M_before_13 0 rfl rfl ?_
    refine g_getV (x := .int (σ1.1 0 48)) d_M_before_14 fl_M_291 (by decide) rfl rfl rfl ?_
    refine g_if_eq (tgt := 24) d_M_before_17 rfl (fun hc => ?_) (fun hc => ?_)
    · have h := h.1 hc
      refine g_iconst d_M_before_24 (x := 0) (by decide) ?_
      exact g_sub [] rfl h
    · have h := h.2 hc
      refine g_iconst d_M_before_20 (x := 1) (by decide) ?_
      refine g_goto (tgt := 25) d_M_before_21 rfl ?_
      exact g_sub [] rfl h
  · have h := h.2 hc
    refine g_iconst d_M_before_7 (x := (-1)) (by decide) ?_
    exact g_iret d_M_before_8 rfl h
set_option maxRecDepth 20000 in
set_option maxHeartbeats 1000000 in
theorem T_M_before_25 {l : Launch} {v : gs_V} {n : Nat} {post : Int32 → gs_S → Prop} {σ : gs_S} {s0 : Int32} (h : post s0 σ) : G_M_before_25 l v n post σ s0 := by
  exact g_iret d_M_before_25 rfl h
theorem E_M_before {l : Launch} {v : gs_V} {n : Nat} {post : Int32 → gs_S → Prop} {σ : gs_S} (h : G_M_before_0 l v n post σ) : gM l v lyM 33 me_M_before (n + 1) [.ref (v.2.2 0)] σ (qI v lyM 33 post) := gM_of (by decide +kernel) (Nat.le_of_ble_eq_true rfl) h
/-! LineRulesModel.beforeAt -/
theorem d_M_beforeAt_0 : decode me_M_beforeAt.2.1 0 = .ok (.aload_n 0, 1) := by decide +kernel
theorem d_M_beforeAt_1 : decode me_M_beforeAt.2.1 1 = .ok (.getfield 179, 3) := by decide +kernel
theorem d_M_beforeAt_4 : decode me_M_beforeAt.2.1 4 = .ok (.ifCond .ne 5, 3) := by decide +kernel
theorem d_M_beforeAt_7 : decode me_M_beforeAt.2.1 7 = .ok (.iconst (-1), 1) := by decide +kernel
theorem d_M_beforeAt_8 : decode me_M_beforeAt.2.1 8 = .ok (.ireturn, 1) := by decide +kernel
theorem d_M_beforeAt_9 : decode me_M_beforeAt.2.1 9 = .ok (.aload_n 0, 1) := by decide +kernel
theorem d_M_beforeAt_10 : decode me_M_beforeAt.2.1 10 = .ok (.invokevirtual 308, 3) := by decide +kernel
theorem d_M_beforeAt_13 : decode me_M_beforeAt.2.1 13 = .ok (.aload_n 0, 1) := by decide +kernel
theorem d_M_beforeAt_14 : decode me_M_beforeAt.2.1 14 = .ok (.getfield 291, 3) := by decide +kernel
theorem d_M_beforeAt_17 : decode me_M_beforeAt.2.1 17 = .ok (.ifCond .eq 24, 3) := by decide +kernel
theorem d_M_beforeAt_20 : decode me_M_beforeAt.2.1 20 = .ok (.iload_n 1, 1) := by decide +kernel
theorem d_M_beforeAt_21 : decode me_M_beforeAt.2.1 21 = .ok (.ifCond .lt 20, 3) := by decide +kernel
theorem d_M_beforeAt_24 : decode me_M_beforeAt.2.1 24 = .ok (.iload_n 1, 1) := by decide +kernel
theorem d_M_beforeAt_25 : decode me_M_beforeAt.2.1 25 = .ok (.aload_n 0, 1) := by decide +kernel
theorem d_M_beforeAt_26 : decode me_M_beforeAt.2.1 26 = .ok (.getfield 16, 3) := by decide +kernel
theorem d_M_beforeAt_29 : decode me_M_beforeAt.2.1 29 = .ok (.if_icmp .ge 12, 3) := by decide +kernel
theorem d_M_beforeAt_32 : decode me_M_beforeAt.2.1 32 = .ok (.aload_n 0, 1) := by decide +kernel
theorem d_M_beforeAt_33 : decode me_M_beforeAt.2.1 33 = .ok (.getfield 100, 3) := by decide +kernel
theorem d_M_beforeAt_36 : decode me_M_beforeAt.2.1 36 = .ok (.iload_n 1, 1) := by decide +kernel
theorem d_M_beforeAt_37 : decode me_M_beforeAt.2.1 37 = .ok (.iaload, 1) := by decide +kernel
theorem d_M_beforeAt_38 : decode me_M_beforeAt.2.1 38 = .ok (.goto 4, 3) := by decide +kernel
theorem d_M_beforeAt_41 : decode me_M_beforeAt.2.1 41 = .ok (.iconst (-1), 1) := by decide +kernel
theorem d_M_beforeAt_42 : decode me_M_beforeAt.2.1 42 = .ok (.ireturn, 1) := by decide +kernel
abbrev G_M_beforeAt_0 (l : Launch) (v : gs_V) (n : Nat) (post : Int32 → gs_S → Prop) (σ : gs_S) (x1 : Int32) : Prop := gG l v lyM 33 me_M_beforeAt n (qI v lyM 33 post) 0 [(0, .ref (v.2.2 0)), (1, .int x1)] [] σ
abbrev G_M_beforeAt_41 (l : Launch) (v : gs_V) (n : Nat) (post : Int32 → gs_S → Prop) (σ : gs_S) : Prop := gG l v lyM 33 me_M_beforeAt n (qI v lyM 33 post) 41 [] [] σ
abbrev G_M_beforeAt_42 (l : Launch) (v : gs_V) (n : Nat) (post : Int32 → gs_S → Prop) (σ : gs_S) (s0 : Int32) : Prop := gG l v lyM 33 me_M_beforeAt n (qI v lyM 33 post) 42 [] [.int s0] σ
set_option maxRecDepth 20000 in
set_option maxHeartbeats 1000000 in
theorem T_M_beforeAt_0 {l : Launch} {v : gs_V} {n : Nat} {post : Int32 → gs_S → Prop} {σ : gs_S} {x1 : Int32} (h : ((¬ (σ.1 0 2) = 0 → gM l v lyM 33 me_M_findBefore n [.ref (v.2.2 0)] σ (qV v lyM 33 (fun σ1 => (((σ1.1 0 48) = 0 → G_M_beforeAt_41 l v n post σ1) ∧ (¬ (σ1.1 0 48) = 0 → ((x1 < 0 → G_M_beforeAt_41 l v n post σ1) ∧ (¬ x1 < 0 → (((σ1.1 0 7) ≤ x1 → G_M_beforeAt_41 l v n post σ1) ∧ (¬ (σ1.1 0 7) ≤ x1 → vp_in x1 68 ∧ G_M_beforeAt_42 l v n post σ1 (σ1.1 29 x1.toNatClampNeg)))))))))) ∧ ((σ.1 0 2) = 0 → post ((-1)) σ))) : G_M_beforeAt_0 l v n post σ x1 := by
  refine g_aload_n d_M_beforeAt_0 0 rfl rfl ?_
  refine g_getV (x := .int (σ.1 0 2)) d_M_beforeAt_1 fl_M_179 (by decide) rfl rfl rfl ?_
  refine g_if_ne (tgt := 9) d_M_beforeAt_4 rfl (fun hc => ?_) (fun hc => ?_)
  · have h := h.1 hc
    refine g_aload_n d_M_beforeAt_9 0 rfl rfl ?_
    refine g_callVv (av := []) (rest := []) d_M_beforeAt_10 Y_M_findBefore lk_M_308 (by decide) rfl rfl I_M_findBefore rfl (Nat.le_of_ble_eq_true rfl) rfl h (fun σ1 h => ?_)
    refine g_aload_n d_M_beforeAt_13 0 rfl rfl ?_
    refine g_getV (x := .int (σ1.1 0 48)) d_M_beforeAt_14 fl_M_291 (by decide) rfl rfl rfl ?_
    refine g_if_eq (tgt := 41) d_M_beforeAt_17 rfl (fun hc => ?_) (fun hc => ?_)
    · have h := h.1 hc
      exact g_sub [] rfl h
    · have h := h.2 hc
      refine g_iload_n d_M_beforeAt_20 1 rfl rfl ?_
      refine g_if_lt (tgt := 41) d_M_beforeAt_21 rfl (fun hc => ?_) (fun hc => ?_)
      · have h := h.1 hc
        exact g_sub [] rfl h
      · have h := h.2 hc
        refine g_iload_n d_M_beforeAt_24 1 rfl rfl ?_
        refine g_aload_n d_M_beforeAt_25 0 rfl rfl ?_
        refine g_getV (x := .int (σ1.1 0 7)) d_M_beforeAt_26 fl_M_16 (by decide) rfl rfl rfl ?_
        refine g_icmp_ge (tgt := 41) d_M_beforeAt_29 rfl (fun hc => ?_) (fun hc => ?_)
        · have h := h.1 hc
          exact g_sub [] rfl h
        · have h := h.2 hc
          refine g_aload_n d_M_beforeAt_32 0 rfl rfl ?_
          refine g_getV (x := .ref (v.2.2 29)) d_M_beforeAt_33 fl_M_100 (by decide) rfl rfl rfl ?_
          refine g_iload_n d_M_beforeAt_36 1 rfl rfl ?_
          have hi2 := h.1
          have h := h.2
          refine g_iald (x := σ1.1 29 x1.toNatClampNeg) d_M_beforeAt_37 (by decide) rfl hi2 rfl ?_
          refine g_goto (tgt := 42) d_M_beforeAt_38 rfl ?_
          exact g_sub [] rfl h
  · have h := h.2 hc
    refine g_iconst d_M_beforeAt_7 (x := (-1)) (by decide) ?_
    exact g_iret d_M_beforeAt_8 rfl h
set_option maxRecDepth 20000 in
set_option maxHeartbeats 1000000 in
theorem T_M_beforeAt_41 {l : Launch} {v : gs_V} {n : Nat} {post : Int32 → gs_S → Prop} {σ : gs_S} (h : G_M_beforeAt_42 l v n post σ ((-1))) : G_M_beforeAt_41 l v n post σ := by
  refine g_iconst d_M_beforeAt_41 (x := (-1)) (by decide) ?_
  exact h
set_option maxRecDepth 20000 in
set_option maxHeartbeats 1000000 in
theorem T_M_beforeAt_42 {l : Launch} {v : gs_V} {n : Nat} {post : Int32 → gs_S → Prop} {σ : gs_S} {s0 : Int32} (h : post s0 σ) : G_M_beforeAt_42 l v n post σ s0 := by
  exact g_iret d_M_beforeAt_42 rfl h
theorem E_M_beforeAt {l : Launch} {v : gs_V} {n : Nat} {post : Int32 → gs_S → Prop} {σ : gs_S} {x1 : Int32} (h : G_M_beforeAt_0 l v n post σ x1) : gM l v lyM 33 me_M_beforeAt (n + 1) [.ref (v.2.2 0), .int x1] σ (qI v lyM 33 post) := gM_of (by decide +kernel) (Nat.le_of_ble_eq_true rfl) h
/-! LineRulesModel.begins -/
theorem d_M_begins_0 : decode me_M_begins.2.1 0 = .ok (.iload_n 1, 1) := by decide +kernel
theorem d_M_begins_1 : decode me_M_begins.2.1 1 = .ok (.bipush 48, 2) := by decide +kernel
theorem d_M_begins_3 : decode me_M_begins.2.1 3 = .ok (.if_icmp .lt 25, 3) := by decide +kernel
theorem d_M_begins_6 : decode me_M_begins.2.1 6 = .ok (.iload_n 1, 1) := by decide +kernel
theorem d_M_begins_7 : decode me_M_begins.2.1 7 = .ok (.bipush 57, 2) := by decide +kernel
theorem d_M_begins_9 : decode me_M_begins.2.1 9 = .ok (.if_icmp .gt 19, 3) := by decide +kernel
theorem d_M_begins_12 : decode me_M_begins.2.1 12 = .ok (.aload_n 0, 1) := by decide +kernel
theorem d_M_begins_13 : decode me_M_begins.2.1 13 = .ok (.iload_n 1, 1) := by decide +kernel
theorem d_M_begins_14 : decode me_M_begins.2.1 14 = .ok (.bipush 48, 2) := by decide +kernel
theorem d_M_begins_16 : decode me_M_begins.2.1 16 = .ok (.isub, 1) := by decide +kernel
theorem d_M_begins_17 : decode me_M_begins.2.1 17 = .ok (.aload_n 0, 1) := by decide +kernel
theorem d_M_begins_18 : decode me_M_begins.2.1 18 = .ok (.getfield 122, 3) := by decide +kernel
theorem d_M_begins_21 : decode me_M_begins.2.1 21 = .ok (.irem, 1) := by decide +kernel
theorem d_M_begins_22 : decode me_M_begins.2.1 22 = .ok (.invokevirtual 141, 3) := by decide +kernel
theorem d_M_begins_25 : decode me_M_begins.2.1 25 = .ok (.goto 99, 3) := by decide +kernel
theorem d_M_begins_28 : decode me_M_begins.2.1 28 = .ok (.iload_n 1, 1) := by decide +kernel
theorem d_M_begins_29 : decode me_M_begins.2.1 29 = .ok (.bipush 97, 2) := by decide +kernel
theorem d_M_begins_31 : decode me_M_begins.2.1 31 = .ok (.if_icmp .lt 46, 3) := by decide +kernel
theorem d_M_begins_34 : decode me_M_begins.2.1 34 = .ok (.iload_n 1, 1) := by decide +kernel
theorem d_M_begins_35 : decode me_M_begins.2.1 35 = .ok (.bipush 97, 2) := by decide +kernel
theorem d_M_begins_37 : decode me_M_begins.2.1 37 = .ok (.aload_n 0, 1) := by decide +kernel
theorem d_M_begins_38 : decode me_M_begins.2.1 38 = .ok (.getfield 144, 3) := by decide +kernel
theorem d_M_begins_41 : decode me_M_begins.2.1 41 = .ok (.iadd, 1) := by decide +kernel
theorem d_M_begins_42 : decode me_M_begins.2.1 42 = .ok (.if_icmp .ge 35, 3) := by decide +kernel
theorem d_M_begins_45 : decode me_M_begins.2.1 45 = .ok (.aload_n 0, 1) := by decide +kernel
theorem d_M_begins_46 : decode me_M_begins.2.1 46 = .ok (.iload_n 2, 1) := by decide +kernel
theorem d_M_begins_47 : decode me_M_begins.2.1 47 = .ok (.aload_n 0, 1) := by decide +kernel
theorem d_M_begins_48 : decode me_M_begins.2.1 48 = .ok (.getfield 122, 3) := by decide +kernel
theorem d_M_begins_51 : decode me_M_begins.2.1 51 = .ok (.aload_n 0, 1) := by decide +kernel
theorem d_M_begins_52 : decode me_M_begins.2.1 52 = .ok (.getfield 144, 3) := by decide +kernel
theorem d_M_begins_55 : decode me_M_begins.2.1 55 = .ok (.iconst 1, 1) := by decide +kernel
theorem d_M_begins_56 : decode me_M_begins.2.1 56 = .ok (.isub, 1) := by decide +kernel
theorem d_M_begins_57 : decode me_M_begins.2.1 57 = .ok (.iload_n 1, 1) := by decide +kernel
theorem d_M_begins_58 : decode me_M_begins.2.1 58 = .ok (.bipush 97, 2) := by decide +kernel
theorem d_M_begins_60 : decode me_M_begins.2.1 60 = .ok (.isub, 1) := by decide +kernel
theorem d_M_begins_61 : decode me_M_begins.2.1 61 = .ok (.isub, 1) := by decide +kernel
theorem d_M_begins_62 : decode me_M_begins.2.1 62 = .ok (.invokestatic 147, 3) := by decide +kernel
theorem d_M_begins_65 : decode me_M_begins.2.1 65 = .ok (.idiv, 1) := by decide +kernel
theorem d_M_begins_66 : decode me_M_begins.2.1 66 = .ok (.aload_n 0, 1) := by decide +kernel
theorem d_M_begins_67 : decode me_M_begins.2.1 67 = .ok (.getfield 122, 3) := by decide +kernel
theorem d_M_begins_70 : decode me_M_begins.2.1 70 = .ok (.irem, 1) := by decide +kernel
theorem d_M_begins_71 : decode me_M_begins.2.1 71 = .ok (.invokevirtual 141, 3) := by decide +kernel
theorem d_M_begins_74 : decode me_M_begins.2.1 74 = .ok (.goto 50, 3) := by decide +kernel
theorem d_M_begins_77 : decode me_M_begins.2.1 77 = .ok (.iload_n 1, 1) := by decide +kernel
theorem d_M_begins_78 : decode me_M_begins.2.1 78 = .ok (.bipush 40, 2) := by decide +kernel
theorem d_M_begins_80 : decode me_M_begins.2.1 80 = .ok (.if_icmp .ne 20, 3) := by decide +kernel
theorem d_M_begins_83 : decode me_M_begins.2.1 83 = .ok (.aload_n 0, 1) := by decide +kernel
theorem d_M_begins_84 : decode me_M_begins.2.1 84 = .ok (.getfield 115, 3) := by decide +kernel
theorem d_M_begins_87 : decode me_M_begins.2.1 87 = .ok (.iconst 4, 1) := by decide +kernel
theorem d_M_begins_88 : decode me_M_begins.2.1 88 = .ok (.if_icmp .ge 12, 3) := by decide +kernel
theorem d_M_begins_91 : decode me_M_begins.2.1 91 = .ok (.aload_n 0, 1) := by decide +kernel
theorem d_M_begins_92 : decode me_M_begins.2.1 92 = .ok (.iconst 1, 1) := by decide +kernel
theorem d_M_begins_93 : decode me_M_begins.2.1 93 = .ok (.iconst 0, 1) := by decide +kernel
theorem d_M_begins_94 : decode me_M_begins.2.1 94 = .ok (.invokevirtual 151, 3) := by decide +kernel
theorem d_M_begins_97 : decode me_M_begins.2.1 97 = .ok (.goto 27, 3) := by decide +kernel
theorem d_M_begins_100 : decode me_M_begins.2.1 100 = .ok (.iload_n 1, 1) := by decide +kernel
theorem d_M_begins_101 : decode me_M_begins.2.1 101 = .ok (.bipush 33, 2) := by decide +kernel
theorem d_M_begins_103 : decode me_M_begins.2.1 103 = .ok (.if_icmp .ne 19, 3) := by decide +kernel
theorem d_M_begins_106 : decode me_M_begins.2.1 106 = .ok (.aload_n 0, 1) := by decide +kernel
theorem d_M_begins_107 : decode me_M_begins.2.1 107 = .ok (.getfield 35, 3) := by decide +kernel
theorem d_M_begins_110 : decode me_M_begins.2.1 110 = .ok (.aload_n 0, 1) := by decide +kernel
theorem d_M_begins_111 : decode me_M_begins.2.1 111 = .ok (.getfield 115, 3) := by decide +kernel
theorem d_M_begins_114 : decode me_M_begins.2.1 114 = .ok (.dup2, 1) := by decide +kernel
theorem d_M_begins_115 : decode me_M_begins.2.1 115 = .ok (.iaload, 1) := by decide +kernel
theorem d_M_begins_116 : decode me_M_begins.2.1 116 = .ok (.iconst 1, 1) := by decide +kernel
theorem d_M_begins_117 : decode me_M_begins.2.1 117 = .ok (.iadd, 1) := by decide +kernel
theorem d_M_begins_118 : decode me_M_begins.2.1 118 = .ok (.iastore, 1) := by decide +kernel
theorem d_M_begins_119 : decode me_M_begins.2.1 119 = .ok (.goto 5, 3) := by decide +kernel
theorem d_M_begins_122 : decode me_M_begins.2.1 122 = .ok (.iconst 0, 1) := by decide +kernel
theorem d_M_begins_123 : decode me_M_begins.2.1 123 = .ok (.ireturn, 1) := by decide +kernel
theorem d_M_begins_124 : decode me_M_begins.2.1 124 = .ok (.iconst 1, 1) := by decide +kernel
theorem d_M_begins_125 : decode me_M_begins.2.1 125 = .ok (.ireturn, 1) := by decide +kernel
abbrev G_M_begins_0 (l : Launch) (v : gs_V) (n : Nat) (post : Int32 → gs_S → Prop) (σ : gs_S) (x1 : Int32) (x2 : Int32) : Prop := gG l v lyM 33 me_M_begins n (qI v lyM 33 post) 0 [(0, .ref (v.2.2 0)), (1, .int x1), (2, .int x2)] [] σ
abbrev G_M_begins_28 (l : Launch) (v : gs_V) (n : Nat) (post : Int32 → gs_S → Prop) (σ : gs_S) (x1 : Int32) (x2 : Int32) : Prop := gG l v lyM 33 me_M_begins n (qI v lyM 33 post) 28 [(0, .ref (v.2.2 0)), (1, .int x1), (2, .int x2)] [] σ
abbrev G_M_begins_77 (l : Launch) (v : gs_V) (n : Nat) (post : Int32 → gs_S → Prop) (σ : gs_S) (x1 : Int32) : Prop := gG l v lyM 33 me_M_begins n (qI v lyM 33 post) 77 [(0, .ref (v.2.2 0)), (1, .int x1)] [] σ
abbrev G_M_begins_100 (l : Launch) (v : gs_V) (n : Nat) (post : Int32 → gs_S → Prop) (σ : gs_S) (x1 : Int32) : Prop := gG l v lyM 33 me_M_begins n (qI v lyM 33 post) 100 [(0, .ref (v.2.2 0)), (1, .int x1)] [] σ
abbrev G_M_begins_124 (l : Launch) (v : gs_V) (n : Nat) (post : Int32 → gs_S → Prop) (σ : gs_S) : Prop := gG l v lyM 33 me_M_begins n (qI v lyM 33 post) 124 [] [] σ
set_option maxRecDepth 20000 in
set_option maxHeartbeats 1000000 in
theorem T_M_begins_0 {l : Launch} {v : gs_V} {n : Nat} {post : Int32 → gs_S → Prop} {σ : gs_S} {x1 : Int32} {x2 : Int32} (h : ((x1 < 48 → G_M_begins_28 l v n post σ x1 x2) ∧ (¬ x1 < 48 → ((57 < x1 → G_M_begins_28 l v n post σ x1 x2) ∧ (¬ 57 < x1 → ¬ (σ.1 0 10) = 0 ∧ gM l v lyM 33 me_M_operand n [.ref (v.2.2 0), .int (jR (x1 - 48) (σ.1 0 10))] σ (qV v lyM 33 (fun σ1 => G_M_begins_124 l v n post σ1))))))) : G_M_begins_0 l v n post σ x1 x2 := by
  refine g_iload_n d_M_begins_0 1 rfl rfl ?_
  refine g_bipush d_M_begins_1 (x := 48) (by decide) ?_
  refine g_icmp_lt (tgt := 28) d_M_begins_3 rfl (fun hc => ?_) (fun hc => ?_)
  · have h := h.1 hc
    exact h
  · have h := h.2 hc
    refine g_iload_n d_M_begins_6 1 rfl rfl ?_
    refine g_bipush d_M_begins_7 (x := 57) (by decide) ?_
    refine g_icmp_gt (tgt := 28) d_M_begins_9 rfl (fun hc => ?_) (fun hc => ?_)
    · have h := h.1 hc
      exact h
    · have h := h.2 hc
      refine g_aload_n d_M_begins_12 0 rfl rfl ?_
      refine g_iload_n d_M_begins_13 1 rfl rfl ?_
      refine g_bipush d_M_begins_14 (x := 48) (by decide) ?_
      refine g_isub d_M_begins_16 ?_
      refine g_aload_n d_M_begins_17 0 rfl rfl ?_
      refine g_getV (x := .int (σ.1 0 10)) d_M_begins_18 fl_M_122 (by decide) rfl rfl rfl ?_
      refine g_irem d_M_begins_21 h.1 ?_
      have h := h.2
      refine g_callVv (av := [.int (jR (x1 - 48) (σ.1 0 10))]) (rest := []) d_M_begins_22 Y_M_operand lk_M_141 (by decide) rfl rfl I_M_operand rfl (Nat.le_of_ble_eq_true rfl) rfl h (fun σ1 h => ?_)
      refine g_goto (tgt := 124) d_M_begins_25 rfl ?_
      exact g_sub [] rfl h
set_option maxRecDepth 20000 in
set_option maxHeartbeats 1000000 in
theorem T_M_begins_28 {l : Launch} {v : gs_V} {n : Nat} {post : Int32 → gs_S → Prop} {σ : gs_S} {x1 : Int32} {x2 : Int32} (h : ((x1 < 97 → G_M_begins_77 l v n post σ x1) ∧ (¬ x1 < 97 → (((97 + (σ.1 0 11)) ≤ x1 → G_M_begins_77 l v n post σ x1) ∧ (¬ (97 + (σ.1 0 11)) ≤ x1 → gM l v lyM 33 me_M_powerOf n [.int (σ.1 0 10), .int (((σ.1 0 11) - 1) - (x1 - 97))] σ (qI v lyM 33 (fun r1 σ1 => ¬ r1 = 0 ∧ ¬ (σ1.1 0 10) = 0 ∧ gM l v lyM 33 me_M_operand n [.ref (v.2.2 0), .int (jR (x2 / r1) (σ1.1 0 10))] σ1 (qV v lyM 33 (fun σ2 => G_M_begins_124 l v n post σ2))))))))) : G_M_begins_28 l v n post σ x1 x2 := by
  refine g_iload_n d_M_begins_28 1 rfl rfl ?_
  refine g_bipush d_M_begins_29 (x := 97) (by decide) ?_
  refine g_icmp_lt (tgt := 77) d_M_begins_31 rfl (fun hc => ?_) (fun hc => ?_)
  · have h := h.1 hc
    exact g_sub [0, 1] rfl h
  · have h := h.2 hc
    refine g_iload_n d_M_begins_34 1 rfl rfl ?_
    refine g_bipush d_M_begins_35 (x := 97) (by decide) ?_
    refine g_aload_n d_M_begins_37 0 rfl rfl ?_
    refine g_getV (x := .int (σ.1 0 11)) d_M_begins_38 fl_M_144 (by decide) rfl rfl rfl ?_
    refine g_iadd d_M_begins_41 ?_
    refine g_icmp_ge (tgt := 77) d_M_begins_42 rfl (fun hc => ?_) (fun hc => ?_)
    · have h := h.1 hc
      exact g_sub [0, 1] rfl h
    · have h := h.2 hc
      refine g_aload_n d_M_begins_45 0 rfl rfl ?_
      refine g_iload_n d_M_begins_46 2 rfl rfl ?_
      refine g_aload_n d_M_begins_47 0 rfl rfl ?_
      refine g_getV (x := .int (σ.1 0 10)) d_M_begins_48 fl_M_122 (by decide) rfl rfl rfl ?_
      refine g_aload_n d_M_begins_51 0 rfl rfl ?_
      refine g_getV (x := .int (σ.1 0 11)) d_M_begins_52 fl_M_144 (by decide) rfl rfl rfl ?_
      refine g_iconst d_M_begins_55 (x := 1) (by decide) ?_
      refine g_isub d_M_begins_56 ?_
      refine g_iload_n d_M_begins_57 1 rfl rfl ?_
      refine g_bipush d_M_begins_58 (x := 97) (by decide) ?_
      refine g_isub d_M_begins_60 ?_
      refine g_isub d_M_begins_61 ?_
      refine g_callSi (av := [.int (σ.1 0 10), .int (((σ.1 0 11) - 1) - (x1 - 97))]) (rest := [.int x2, .ref (v.2.2 0)]) d_M_begins_62 Y_M_powerOf lk_M_147 I_M_powerOf rfl (Nat.le_of_ble_eq_true rfl) rfl h (fun r1 σ1 h => ?_)
      refine g_idiv d_M_begins_65 h.1 ?_
      have h := h.2
      refine g_aload_n d_M_begins_66 0 rfl rfl ?_
      refine g_getV (x := .int (σ1.1 0 10)) d_M_begins_67 fl_M_122 (by decide) rfl rfl rfl ?_
      refine g_irem d_M_begins_70 h.1 ?_
      have h := h.2
      refine g_callVv (av := [.int (jR (x2 / r1) (σ1.1 0 10))]) (rest := []) d_M_begins_71 Y_M_operand lk_M_141 (by decide) rfl rfl I_M_operand rfl (Nat.le_of_ble_eq_true rfl) rfl h (fun σ2 h => ?_)
      refine g_goto (tgt := 124) d_M_begins_74 rfl ?_
      exact g_sub [] rfl h
set_option maxRecDepth 20000 in
set_option maxHeartbeats 1000000 in
theorem T_M_begins_77 {l : Launch} {v : gs_V} {n : Nat} {post : Int32 → gs_S → Prop} {σ : gs_S} {x1 : Int32} (h : ((¬ x1 = 40 → G_M_begins_100 l v n post σ x1) ∧ (x1 = 40 → ((4 ≤ (σ.1 0 13) → G_M_begins_100 l v n post σ x1) ∧ (¬ 4 ≤ (σ.1 0 13) → gM l v lyM 33 me_M_open n [.ref (v.2.2 0), .int 1, .int 0] σ (qV v lyM 33 (fun σ1 => G_M_begins_124 l v n post σ1))))))) : G_M_begins_77 l v n post σ x1 := by
  refine g_iload_n d_M_begins_77 1 rfl rfl ?_
  refine g_bipush d_M_begins_78 (x := 40) (by decide) ?_
  refine g_icmp_ne (tgt := 100) d_M_begins_80 rfl (fun hc => ?_) (fun hc => ?_)
  · have h := h.1 hc
    exact h
  · have h := h.2 hc
    refine g_aload_n d_M_begins_83 0 rfl rfl ?_
    refine g_getV (x := .int (σ.1 0 13)) d_M_begins_84 fl_M_115 (by decide) rfl rfl rfl ?_
    refine g_iconst d_M_begins_87 (x := 4) (by decide) ?_
    refine g_icmp_ge (tgt := 100) d_M_begins_88 rfl (fun hc => ?_) (fun hc => ?_)
    · have h := h.1 hc
      exact h
    · have h := h.2 hc
      refine g_aload_n d_M_begins_91 0 rfl rfl ?_
      refine g_iconst d_M_begins_92 (x := 1) (by decide) ?_
      refine g_iconst d_M_begins_93 (x := 0) (by decide) ?_
      refine g_callVv (av := [.int 1, .int 0]) (rest := []) d_M_begins_94 Y_M_open lk_M_151 (by decide) rfl rfl I_M_open rfl (Nat.le_of_ble_eq_true rfl) rfl h (fun σ1 h => ?_)
      refine g_goto (tgt := 124) d_M_begins_97 rfl ?_
      exact g_sub [] rfl h
set_option maxRecDepth 20000 in
set_option maxHeartbeats 1000000 in
theorem T_M_begins_100 {l : Launch} {v : gs_V} {n : Nat} {post : Int32 → gs_S → Prop} {σ : gs_S} {x1 : Int32} (h : ((¬ x1 = 33 → post 0 σ) ∧ (x1 = 33 → vp_in (σ.1 0 13) 6 ∧ vp_in (σ.1 0 13) 6 ∧ G_M_begins_124 l v n post (gs_pI σ 8 ((σ.1 0 13).toNatClampNeg) ((σ.1 8 ((σ.1 0 13).toNatClampNeg)) + 1))))) : G_M_begins_100 l v n post σ x1 := by
  refine g_iload_n d_M_begins_100 1 rfl rfl ?_
  refine g_bipush d_M_begins_101 (x := 33) (by decide) ?_
  refine g_icmp_ne (tgt := 122) d_M_begins_103 rfl (fun hc => ?_) (fun hc => ?_)
  · have h := h.1 hc
    refine g_iconst d_M_begins_122 (x := 0) (by decide) ?_
    exact g_zret d_M_begins_123 rfl rfl h
  · have h := h.2 hc
    refine g_aload_n d_M_begins_106 0 rfl rfl ?_
    refine g_getV (x := .ref (v.2.2 8)) d_M_begins_107 fl_M_35 (by decide) rfl rfl rfl ?_
    refine g_aload_n d_M_begins_110 0 rfl rfl ?_
    refine g_getV (x := .int (σ.1 0 13)) d_M_begins_111 fl_M_115 (by decide) rfl rfl rfl ?_
    refine g_dup2_11 d_M_begins_114 rfl rfl ?_
    have hi1 := h.1
    have h := h.2
    refine g_iald (x := σ.1 8 ((σ.1 0 13).toNatClampNeg)) d_M_begins_115 (by decide) rfl hi1 rfl ?_
    refine g_iconst d_M_begins_116 (x := 1) (by decide) ?_
    refine g_iadd d_M_begins_117 ?_
    have hi2 := h.1
    have h := h.2
    refine g_iast d_M_begins_118 (by decide) rfl hi2 ?_
    refine g_goto (tgt := 124) d_M_begins_119 rfl ?_
    exact g_sub [] rfl h
set_option maxRecDepth 20000 in
set_option maxHeartbeats 1000000 in
theorem T_M_begins_124 {l : Launch} {v : gs_V} {n : Nat} {post : Int32 → gs_S → Prop} {σ : gs_S} (h : post 1 σ) : G_M_begins_124 l v n post σ := by
  refine g_iconst d_M_begins_124 (x := 1) (by decide) ?_
  exact g_zret d_M_begins_125 rfl rfl h
theorem E_M_begins {l : Launch} {v : gs_V} {n : Nat} {post : Int32 → gs_S → Prop} {σ : gs_S} {x1 : Int32} {x2 : Int32} (h : G_M_begins_0 l v n post σ x1 x2) : gM l v lyM 33 me_M_begins (n + 1) [.ref (v.2.2 0), .int x1, .int x2] σ (qI v lyM 33 post) := gM_of (by decide +kernel) (Nat.le_of_ble_eq_true rfl) h
/-! LineRulesModel.behind -/
theorem d_M_behind_0 : decode me_M_behind.2.1 0 = .ok (.lconst 0, 1) := by decide +kernel
theorem d_M_behind_1 : decode me_M_behind.2.1 1 = .ok (.lstore 4, 2) := by decide +kernel
theorem d_M_behind_3 : decode me_M_behind.2.1 3 = .ok (.iconst 0, 1) := by decide +kernel
theorem d_M_behind_4 : decode me_M_behind.2.1 4 = .ok (.istore 6, 2) := by decide +kernel
theorem d_M_behind_6 : decode me_M_behind.2.1 6 = .ok (.iload 6, 2) := by decide +kernel
theorem d_M_behind_8 : decode me_M_behind.2.1 8 = .ok (.aload_n 0, 1) := by decide +kernel
theorem d_M_behind_9 : decode me_M_behind.2.1 9 = .ok (.getfield 188, 3) := by decide +kernel
theorem d_M_behind_12 : decode me_M_behind.2.1 12 = .ok (.if_icmp .ge 79, 3) := by decide +kernel
theorem d_M_behind_15 : decode me_M_behind.2.1 15 = .ok (.iconst 0, 1) := by decide +kernel
theorem d_M_behind_16 : decode me_M_behind.2.1 16 = .ok (.istore 7, 2) := by decide +kernel
theorem d_M_behind_18 : decode me_M_behind.2.1 18 = .ok (.iload 7, 2) := by decide +kernel
theorem d_M_behind_20 : decode me_M_behind.2.1 20 = .ok (.aload_n 0, 1) := by decide +kernel
theorem d_M_behind_21 : decode me_M_behind.2.1 21 = .ok (.getfield 179, 3) := by decide +kernel
theorem d_M_behind_24 : decode me_M_behind.2.1 24 = .ok (.if_icmp .ge 61, 3) := by decide +kernel
theorem d_M_behind_27 : decode me_M_behind.2.1 27 = .ok (.lload_n 1, 1) := by decide +kernel
theorem d_M_behind_28 : decode me_M_behind.2.1 28 = .ok (.iload 6, 2) := by decide +kernel
theorem d_M_behind_30 : decode me_M_behind.2.1 30 = .ok (.lshr, 1) := by decide +kernel
theorem d_M_behind_31 : decode me_M_behind.2.1 31 = .ok (.lconst 1, 1) := by decide +kernel
theorem d_M_behind_32 : decode me_M_behind.2.1 32 = .ok (.land, 1) := by decide +kernel
theorem d_M_behind_33 : decode me_M_behind.2.1 33 = .ok (.lconst 1, 1) := by decide +kernel
theorem d_M_behind_34 : decode me_M_behind.2.1 34 = .ok (.lcmp, 1) := by decide +kernel
theorem d_M_behind_35 : decode me_M_behind.2.1 35 = .ok (.ifCond .ne 50, 3) := by decide +kernel
theorem d_M_behind_38 : decode me_M_behind.2.1 38 = .ok (.aload_n 0, 1) := by decide +kernel
theorem d_M_behind_39 : decode me_M_behind.2.1 39 = .ok (.getfield 13, 3) := by decide +kernel
theorem d_M_behind_42 : decode me_M_behind.2.1 42 = .ok (.iload 6, 2) := by decide +kernel
theorem d_M_behind_44 : decode me_M_behind.2.1 44 = .ok (.aload_n 0, 1) := by decide +kernel
theorem d_M_behind_45 : decode me_M_behind.2.1 45 = .ok (.getfield 179, 3) := by decide +kernel
theorem d_M_behind_48 : decode me_M_behind.2.1 48 = .ok (.imul, 1) := by decide +kernel
theorem d_M_behind_49 : decode me_M_behind.2.1 49 = .ok (.iload 7, 2) := by decide +kernel
theorem d_M_behind_51 : decode me_M_behind.2.1 51 = .ok (.iadd, 1) := by decide +kernel
theorem d_M_behind_52 : decode me_M_behind.2.1 52 = .ok (.iaload, 1) := by decide +kernel
theorem d_M_behind_53 : decode me_M_behind.2.1 53 = .ok (.iload_n 3, 1) := by decide +kernel
theorem d_M_behind_54 : decode me_M_behind.2.1 54 = .ok (.if_icmp .ne 25, 3) := by decide +kernel
theorem d_M_behind_57 : decode me_M_behind.2.1 57 = .ok (.lload 4, 2) := by decide +kernel
theorem d_M_behind_59 : decode me_M_behind.2.1 59 = .ok (.lconst 1, 1) := by decide +kernel
theorem d_M_behind_60 : decode me_M_behind.2.1 60 = .ok (.iload 6, 2) := by decide +kernel
theorem d_M_behind_62 : decode me_M_behind.2.1 62 = .ok (.aload_n 0, 1) := by decide +kernel
theorem d_M_behind_63 : decode me_M_behind.2.1 63 = .ok (.getfield 179, 3) := by decide +kernel
theorem d_M_behind_66 : decode me_M_behind.2.1 66 = .ok (.imul, 1) := by decide +kernel
theorem d_M_behind_67 : decode me_M_behind.2.1 67 = .ok (.iload 7, 2) := by decide +kernel
theorem d_M_behind_69 : decode me_M_behind.2.1 69 = .ok (.iadd, 1) := by decide +kernel
theorem d_M_behind_70 : decode me_M_behind.2.1 70 = .ok (.aload_n 0, 1) := by decide +kernel
theorem d_M_behind_71 : decode me_M_behind.2.1 71 = .ok (.getfield 188, 3) := by decide +kernel
theorem d_M_behind_74 : decode me_M_behind.2.1 74 = .ok (.irem, 1) := by decide +kernel
theorem d_M_behind_75 : decode me_M_behind.2.1 75 = .ok (.lshl, 1) := by decide +kernel
theorem d_M_behind_76 : decode me_M_behind.2.1 76 = .ok (.lor, 1) := by decide +kernel
theorem d_M_behind_77 : decode me_M_behind.2.1 77 = .ok (.lstore 4, 2) := by decide +kernel
theorem d_M_behind_79 : decode me_M_behind.2.1 79 = .ok (.iinc 7 1, 3) := by decide +kernel
theorem d_M_behind_82 : decode me_M_behind.2.1 82 = .ok (.goto (-64), 3) := by decide +kernel
theorem d_M_behind_85 : decode me_M_behind.2.1 85 = .ok (.iinc 6 1, 3) := by decide +kernel
theorem d_M_behind_88 : decode me_M_behind.2.1 88 = .ok (.goto (-82), 3) := by decide +kernel
theorem d_M_behind_91 : decode me_M_behind.2.1 91 = .ok (.lload 4, 2) := by decide +kernel
theorem d_M_behind_93 : decode me_M_behind.2.1 93 = .ok (.lreturn, 1) := by decide +kernel
abbrev G_M_behind_0 (l : Launch) (v : gs_V) (n : Nat) (post : Int64 → gs_S → Prop) (σ : gs_S) (x1 : Int64) (x3 : Int32) : Prop := gG l v lyM 33 me_M_behind n (qL v lyM 33 post) 0 [(0, .ref (v.2.2 0)), (1, .long x1), (3, .int x3)] [] σ
abbrev G_M_behind_6 (l : Launch) (v : gs_V) (n : Nat) (post : Int64 → gs_S → Prop) (σ : gs_S) (x1 : Int64) (x3 : Int32) (x4 : Int64) (x6 : Int32) : Prop := gG l v lyM 33 me_M_behind n (qL v lyM 33 post) 6 [(0, .ref (v.2.2 0)), (1, .long x1), (3, .int x3), (4, .long x4), (6, .int x6)] [] σ
abbrev G_M_behind_18 (l : Launch) (v : gs_V) (n : Nat) (post : Int64 → gs_S → Prop) (σ : gs_S) (x1 : Int64) (x3 : Int32) (x4 : Int64) (x6 : Int32) (x7 : Int32) : Prop := gG l v lyM 33 me_M_behind n (qL v lyM 33 post) 18 [(0, .ref (v.2.2 0)), (1, .long x1), (3, .int x3), (4, .long x4), (6, .int x6), (7, .int x7)] [] σ
abbrev G_M_behind_79 (l : Launch) (v : gs_V) (n : Nat) (post : Int64 → gs_S → Prop) (σ : gs_S) (x1 : Int64) (x3 : Int32) (x4 : Int64) (x6 : Int32) (x7 : Int32) : Prop := gG l v lyM 33 me_M_behind n (qL v lyM 33 post) 79 [(0, .ref (v.2.2 0)), (1, .long x1), (3, .int x3), (4, .long x4), (6, .int x6), (7, .int x7)] [] σ
abbrev G_M_behind_85 (l : Launch) (v : gs_V) (n : Nat) (post : Int64 → gs_S → Prop) (σ : gs_S) (x1 : Int64) (x3 : Int32) (x4 : Int64) (x6 : Int32) : Prop := gG l v lyM 33 me_M_behind n (qL v lyM 33 post) 85 [(0, .ref (v.2.2 0)), (1, .long x1), (3, .int x3), (4, .long x4), (6, .int x6)] [] σ
set_option maxRecDepth 20000 in
set_option maxHeartbeats 1000000 in
theorem T_M_behind_0 {l : Launch} {v : gs_V} {n : Nat} {post : Int64 → gs_S → Prop} {σ : gs_S} {x1 : Int64} {x3 : Int32} (h : G_M_behind_6 l v n post σ x1 x3 0 0) : G_M_behind_0 l v n post σ x1 x3 := by
  refine g_lconst d_M_behind_0 (x := 0) (by decide) ?_
  refine g_lstore (L' := [(4, .long 0), (0, .ref (v.2.2 0)), (1, .long x1), (3, .int x3)]) d_M_behind_1 (by decide) rfl ?_
  refine g_iconst d_M_behind_3 (x := 0) (by decide) ?_
  refine g_istore (L' := [(6, .int 0), (4, .long 0), (0, .ref (v.2.2 0)), (1, .long x1), (3, .int x3)]) d_M_behind_4 (by decide) rfl ?_
  exact g_sub [2, 3, 4, 1, 0] rfl h
set_option maxRecDepth 20000 in
set_option maxHeartbeats 1000000 in
theorem T_M_behind_6 {l : Launch} {v : gs_V} {n : Nat} {post : Int64 → gs_S → Prop} {σ : gs_S} {x1 : Int64} {x3 : Int32} {x4 : Int64} {x6 : Int32} (h : (((σ.1 0 4) ≤ x6 → post x4 σ) ∧ (¬ (σ.1 0 4) ≤ x6 → G_M_behind_18 l v n post σ x1 x3 x4 x6 0))) : G_M_behind_6 l v n post σ x1 x3 x4 x6 := by
  refine g_iload d_M_behind_6 4 rfl ?_
  refine g_aload_n d_M_behind_8 0 rfl rfl ?_
  refine g_getV (x := .int (σ.1 0 4)) d_M_behind_9 fl_M_188 (by decide) rfl rfl rfl ?_
  refine g_icmp_ge (tgt := 91) d_M_behind_12 rfl (fun hc => ?_) (fun hc => ?_)
  · have h := h.1 hc
    refine g_lload d_M_behind_91 3 rfl ?_
    exact g_lret d_M_behind_93 rfl h
  · have h := h.2 hc
    refine g_iconst d_M_behind_15 (x := 0) (by decide) ?_
    refine g_istore (L' := [(7, .int 0), (0, .ref (v.2.2 0)), (1, .long x1), (3, .int x3), (4, .long x4), (6, .int x6)]) d_M_behind_16 (by decide) rfl ?_
    exact g_sub [1, 2, 3, 4, 5, 0] rfl h
set_option maxRecDepth 20000 in
set_option maxHeartbeats 1000000 in
theorem T_M_behind_18 {l : Launch} {v : gs_V} {n : Nat} {post : Int64 → gs_S → Prop} {σ : gs_S} {x1 : Int64} {x3 : Int32} {x4 : Int64} {x6 : Int32} {x7 : Int32} (h : (((σ.1 0 2) ≤ x7 → G_M_behind_85 l v n post σ x1 x3 x4 x6) ∧ (¬ (σ.1 0 2) ≤ x7 → ((¬ ((jA x1 x6) &&& 1) = 1 → G_M_behind_85 l v n post σ x1 x3 x4 x6) ∧ (((jA x1 x6) &&& 1) = 1 → vp_in ((x6 * (σ.1 0 2)) + x7) 256 ∧ ((¬ (σ.1 2 (((x6 * (σ.1 0 2)) + x7).toNatClampNeg)) = x3 → G_M_behind_79 l v n post σ x1 x3 x4 x6 x7) ∧ ((σ.1 2 (((x6 * (σ.1 0 2)) + x7).toNatClampNeg)) = x3 → ¬ (σ.1 0 4) = 0 ∧ G_M_behind_79 l v n post σ x1 x3 (x4 ||| (jS 1 (jR ((x6 * (σ.1 0 2)) + x7) (σ.1 0 4)))) x6 x7))))))) : G_M_behind_18 l v n post σ x1 x3 x4 x6 x7 := by
  refine g_iload d_M_behind_18 5 rfl ?_
  refine g_aload_n d_M_behind_20 0 rfl rfl ?_
  refine g_getV (x := .int (σ.1 0 2)) d_M_behind_21 fl_M_179 (by decide) rfl rfl rfl ?_
  refine g_icmp_ge (tgt := 85) d_M_behind_24 rfl (fun hc => ?_) (fun hc => ?_)
  · have h := h.1 hc
    exact g_sub [0, 1, 2, 3, 4] rfl h
  · have h := h.2 hc
    refine g_lload_n d_M_behind_27 1 rfl rfl ?_
    refine g_iload d_M_behind_28 4 rfl ?_
    refine g_lshr d_M_behind_30 ?_
    refine g_lconst d_M_behind_31 (x := 1) (by decide) ?_
    refine g_land d_M_behind_32 ?_
    refine g_lconst d_M_behind_33 (x := 1) (by decide) ?_
    refine g_lcmp_ne (tgt := 85) d_M_behind_34 d_M_behind_35 rfl (fun hc => ?_) (fun hc => ?_)
    · have h := h.1 hc
      exact g_sub [0, 1, 2, 3, 4] rfl h
    · have h := h.2 hc
      refine g_aload_n d_M_behind_38 0 rfl rfl ?_
      refine g_getV (x := .ref (v.2.2 2)) d_M_behind_39 fl_M_13 (by decide) rfl rfl rfl ?_
      refine g_iload d_M_behind_42 4 rfl ?_
      refine g_aload_n d_M_behind_44 0 rfl rfl ?_
      refine g_getV (x := .int (σ.1 0 2)) d_M_behind_45 fl_M_179 (by decide) rfl rfl rfl ?_
      refine g_imul d_M_behind_48 ?_
      refine g_iload d_M_behind_49 5 rfl ?_
      refine g_iadd d_M_behind_51 ?_
      have hi1 := h.1
      have h := h.2
      refine g_iald (x := σ.1 2 (((x6 * (σ.1 0 2)) + x7).toNatClampNeg)) d_M_behind_52 (by decide) rfl hi1 rfl ?_
      refine g_iload_n d_M_behind_53 2 rfl rfl ?_
      refine g_icmp_ne (tgt := 79) d_M_behind_54 rfl (fun hc => ?_) (fun hc => ?_)
      · have h := h.1 hc
        exact h
      · have h := h.2 hc
        refine g_lload d_M_behind_57 3 rfl ?_
        refine g_lconst d_M_behind_59 (x := 1) (by decide) ?_
        refine g_iload d_M_behind_60 4 rfl ?_
        refine g_aload_n d_M_behind_62 0 rfl rfl ?_
        refine g_getV (x := .int (σ.1 0 2)) d_M_behind_63 fl_M_179 (by decide) rfl rfl rfl ?_
        refine g_imul d_M_behind_66 ?_
        refine g_iload d_M_behind_67 5 rfl ?_
        refine g_iadd d_M_behind_69 ?_
        refine g_aload_n d_M_behind_70 0 rfl rfl ?_
        refine g_getV (x := .int (σ.1 0 4)) d_M_behind_71 fl_M_188 (by decide) rfl rfl rfl ?_
        refine g_irem d_M_behind_74 h.1 ?_
        have h := h.2
        refine g_lshl d_M_behind_75 ?_
        refine g_lor d_M_behind_76 ?_
        refine g_lstore (L' := [(4, .long (x4 ||| (jS 1 (jR ((x6 * (σ.1 0 2)) + x7) (σ.1 0 4))))), (0, .ref (v.2.2 0)), (1, .long x1), (3, .int x3), (6, .int x6), (7, .int x7)]) d_M_behind_77 (by decide) rfl ?_
        exact g_sub [1, 2, 3, 0, 4, 5] rfl h
set_option maxRecDepth 20000 in
set_option maxHeartbeats 1000000 in
theorem T_M_behind_79 {l : Launch} {v : gs_V} {n : Nat} {post : Int64 → gs_S → Prop} {σ : gs_S} {x1 : Int64} {x3 : Int32} {x4 : Int64} {x6 : Int32} {x7 : Int32} (h : G_M_behind_18 l v n post σ x1 x3 x4 x6 (x7 + 1)) : G_M_behind_79 l v n post σ x1 x3 x4 x6 x7 := by
  refine g_iinc (L' := [(7, .int (x7 + 1)), (0, .ref (v.2.2 0)), (1, .long x1), (3, .int x3), (4, .long x4), (6, .int x6)]) d_M_behind_79 5 rfl (by rfl) (by decide) rfl ?_
  refine g_goto (tgt := 18) d_M_behind_82 rfl ?_
  exact g_sub [1, 2, 3, 4, 5, 0] rfl h
set_option maxRecDepth 20000 in
set_option maxHeartbeats 1000000 in
theorem T_M_behind_85 {l : Launch} {v : gs_V} {n : Nat} {post : Int64 → gs_S → Prop} {σ : gs_S} {x1 : Int64} {x3 : Int32} {x4 : Int64} {x6 : Int32} (h : G_M_behind_6 l v n post σ x1 x3 x4 (x6 + 1)) : G_M_behind_85 l v n post σ x1 x3 x4 x6 := by
  refine g_iinc (L' := [(6, .int (x6 + 1)), (0, .ref (v.2.2 0)), (1, .long x1), (3, .int x3), (4, .long x4)]) d_M_behind_85 4 rfl (by rfl) (by decide) rfl ?_
  refine g_goto (tgt := 6) d_M_behind_88 rfl ?_
  exact g_sub [1, 2, 3, 4, 0] rfl h
theorem E_M_behind {l : Launch} {v : gs_V} {n : Nat} {post : Int64 → gs_S → Prop} {σ : gs_S} {x1 : Int64} {x3 : Int32} (h : G_M_behind_0 l v n post σ x1 x3) : gM l v lyM 33 me_M_behind (n + 1) [.ref (v.2.2 0), .long x1, .int x3] σ (qL v lyM 33 post) := gM_of (by decide +kernel) (Nat.le_of_ble_eq_true rfl) h
/-! LineRulesModel.clearRow -/
theorem d_M_clearRow_0 : decode me_M_clearRow.2.1 0 = .ok (.iconst 1, 1) := by decide +kernel
theorem d_M_clearRow_1 : decode me_M_clearRow.2.1 1 = .ok (.istore_n 2, 1) := by decide +kernel
theorem d_M_clearRow_2 : decode me_M_clearRow.2.1 2 = .ok (.iload_n 2, 1) := by decide +kernel
theorem d_M_clearRow_3 : decode me_M_clearRow.2.1 3 = .ok (.iconst 4, 1) := by decide +kernel
theorem d_M_clearRow_4 : decode me_M_clearRow.2.1 4 = .ok (.if_icmp .ge 25, 3) := by decide +kernel
theorem d_M_clearRow_7 : decode me_M_clearRow.2.1 7 = .ok (.aload_n 0, 1) := by decide +kernel
theorem d_M_clearRow_8 : decode me_M_clearRow.2.1 8 = .ok (.getfield 85, 3) := by decide +kernel
theorem d_M_clearRow_11 : decode me_M_clearRow.2.1 11 = .ok (.iload_n 2, 1) := by decide +kernel
theorem d_M_clearRow_12 : decode me_M_clearRow.2.1 12 = .ok (.aload_n 0, 1) := by decide +kernel
theorem d_M_clearRow_13 : decode me_M_clearRow.2.1 13 = .ok (.getfield 81, 3) := by decide +kernel
theorem d_M_clearRow_16 : decode me_M_clearRow.2.1 16 = .ok (.iconst 4, 1) := by decide +kernel
theorem d_M_clearRow_17 : decode me_M_clearRow.2.1 17 = .ok (.iload_n 1, 1) := by decide +kernel
theorem d_M_clearRow_18 : decode me_M_clearRow.2.1 18 = .ok (.imul, 1) := by decide +kernel
theorem d_M_clearRow_19 : decode me_M_clearRow.2.1 19 = .ok (.iload_n 2, 1) := by decide +kernel
theorem d_M_clearRow_20 : decode me_M_clearRow.2.1 20 = .ok (.iadd, 1) := by decide +kernel
theorem d_M_clearRow_21 : decode me_M_clearRow.2.1 21 = .ok (.laload, 1) := by decide +kernel
theorem d_M_clearRow_22 : decode me_M_clearRow.2.1 22 = .ok (.lastore, 1) := by decide +kernel
theorem d_M_clearRow_23 : decode me_M_clearRow.2.1 23 = .ok (.iinc 2 1, 3) := by decide +kernel
theorem d_M_clearRow_26 : decode me_M_clearRow.2.1 26 = .ok (.goto (-24), 3) := by decide +kernel
theorem d_M_clearRow_29 : decode me_M_clearRow.2.1 29 = .ok (.iload_n 1, 1) := by decide +kernel
theorem d_M_clearRow_30 : decode me_M_clearRow.2.1 30 = .ok (.iconst 1, 1) := by decide +kernel
theorem d_M_clearRow_31 : decode me_M_clearRow.2.1 31 = .ok (.isub, 1) := by decide +kernel
theorem d_M_clearRow_32 : decode me_M_clearRow.2.1 32 = .ok (.istore_n 2, 1) := by decide +kernel
theorem d_M_clearRow_33 : decode me_M_clearRow.2.1 33 = .ok (.iload_n 2, 1) := by decide +kernel
theorem d_M_clearRow_34 : decode me_M_clearRow.2.1 34 = .ok (.ifCond .le 35, 3) := by decide +kernel
theorem d_M_clearRow_37 : decode me_M_clearRow.2.1 37 = .ok (.aload_n 0, 1) := by decide +kernel
theorem d_M_clearRow_38 : decode me_M_clearRow.2.1 38 = .ok (.getfield 78, 3) := by decide +kernel
theorem d_M_clearRow_41 : decode me_M_clearRow.2.1 41 = .ok (.iload_n 2, 1) := by decide +kernel
theorem d_M_clearRow_42 : decode me_M_clearRow.2.1 42 = .ok (.baload, 1) := by decide +kernel
theorem d_M_clearRow_43 : decode me_M_clearRow.2.1 43 = .ok (.ifCond .eq 20, 3) := by decide +kernel
theorem d_M_clearRow_46 : decode me_M_clearRow.2.1 46 = .ok (.aload_n 0, 1) := by decide +kernel
theorem d_M_clearRow_47 : decode me_M_clearRow.2.1 47 = .ok (.getfield 85, 3) := by decide +kernel
theorem d_M_clearRow_50 : decode me_M_clearRow.2.1 50 = .ok (.iload_n 2, 1) := by decide +kernel
theorem d_M_clearRow_51 : decode me_M_clearRow.2.1 51 = .ok (.laload, 1) := by decide +kernel
theorem d_M_clearRow_52 : decode me_M_clearRow.2.1 52 = .ok (.lconst 0, 1) := by decide +kernel
theorem d_M_clearRow_53 : decode me_M_clearRow.2.1 53 = .ok (.lcmp, 1) := by decide +kernel
theorem d_M_clearRow_54 : decode me_M_clearRow.2.1 54 = .ok (.ifCond .eq 9, 3) := by decide +kernel
theorem d_M_clearRow_57 : decode me_M_clearRow.2.1 57 = .ok (.aload_n 0, 1) := by decide +kernel
theorem d_M_clearRow_58 : decode me_M_clearRow.2.1 58 = .ok (.iload_n 2, 1) := by decide +kernel
theorem d_M_clearRow_59 : decode me_M_clearRow.2.1 59 = .ok (.iload_n 2, 1) := by decide +kernel
theorem d_M_clearRow_60 : decode me_M_clearRow.2.1 60 = .ok (.invokevirtual 252, 3) := by decide +kernel
theorem d_M_clearRow_63 : decode me_M_clearRow.2.1 63 = .ok (.iinc 2 (-1), 3) := by decide +kernel
theorem d_M_clearRow_66 : decode me_M_clearRow.2.1 66 = .ok (.goto (-33), 3) := by decide +kernel
theorem d_M_clearRow_69 : decode me_M_clearRow.2.1 69 = .ok (.iconst 1, 1) := by decide +kernel
theorem d_M_clearRow_70 : decode me_M_clearRow.2.1 70 = .ok (.istore_n 2, 1) := by decide +kernel
theorem d_M_clearRow_71 : decode me_M_clearRow.2.1 71 = .ok (.iload_n 2, 1) := by decide +kernel
theorem d_M_clearRow_72 : decode me_M_clearRow.2.1 72 = .ok (.iconst 4, 1) := by decide +kernel
theorem d_M_clearRow_73 : decode me_M_clearRow.2.1 73 = .ok (.if_icmp .ge 25, 3) := by decide +kernel
theorem d_M_clearRow_76 : decode me_M_clearRow.2.1 76 = .ok (.aload_n 0, 1) := by decide +kernel
theorem d_M_clearRow_77 : decode me_M_clearRow.2.1 77 = .ok (.getfield 81, 3) := by decide +kernel
theorem d_M_clearRow_80 : decode me_M_clearRow.2.1 80 = .ok (.iconst 4, 1) := by decide +kernel
theorem d_M_clearRow_81 : decode me_M_clearRow.2.1 81 = .ok (.iload_n 1, 1) := by decide +kernel
theorem d_M_clearRow_82 : decode me_M_clearRow.2.1 82 = .ok (.imul, 1) := by decide +kernel
theorem d_M_clearRow_83 : decode me_M_clearRow.2.1 83 = .ok (.iload_n 2, 1) := by decide +kernel
theorem d_M_clearRow_84 : decode me_M_clearRow.2.1 84 = .ok (.iadd, 1) := by decide +kernel
theorem d_M_clearRow_85 : decode me_M_clearRow.2.1 85 = .ok (.aload_n 0, 1) := by decide +kernel
theorem d_M_clearRow_86 : decode me_M_clearRow.2.1 86 = .ok (.getfield 85, 3) := by decide +kernel
theorem d_M_clearRow_89 : decode me_M_clearRow.2.1 89 = .ok (.iload_n 2, 1) := by decide +kernel
theorem d_M_clearRow_90 : decode me_M_clearRow.2.1 90 = .ok (.laload, 1) := by decide +kernel
theorem d_M_clearRow_91 : decode me_M_clearRow.2.1 91 = .ok (.lastore, 1) := by decide +kernel
theorem d_M_clearRow_92 : decode me_M_clearRow.2.1 92 = .ok (.iinc 2 1, 3) := by decide +kernel
theorem d_M_clearRow_95 : decode me_M_clearRow.2.1 95 = .ok (.goto (-24), 3) := by decide +kernel
theorem d_M_clearRow_98 : decode me_M_clearRow.2.1 98 = .ok (.return_, 1) := by decide +kernel
abbrev G_M_clearRow_0 (l : Launch) (v : gs_V) (n : Nat) (post : gs_S → Prop) (σ : gs_S) (x1 : Int32) : Prop := gG l v lyM 33 me_M_clearRow n (qV v lyM 33 post) 0 [(0, .ref (v.2.2 0)), (1, .int x1)] [] σ
abbrev G_M_clearRow_2 (l : Launch) (v : gs_V) (n : Nat) (post : gs_S → Prop) (σ : gs_S) (x1 : Int32) (x2 : Int32) : Prop := gG l v lyM 33 me_M_clearRow n (qV v lyM 33 post) 2 [(0, .ref (v.2.2 0)), (1, .int x1), (2, .int x2)] [] σ
abbrev G_M_clearRow_33 (l : Launch) (v : gs_V) (n : Nat) (post : gs_S → Prop) (σ : gs_S) (x1 : Int32) (x2 : Int32) : Prop := gG l v lyM 33 me_M_clearRow n (qV v lyM 33 post) 33 [(0, .ref (v.2.2 0)), (1, .int x1), (2, .int x2)] [] σ
abbrev G_M_clearRow_63 (l : Launch) (v : gs_V) (n : Nat) (post : gs_S → Prop) (σ : gs_S) (x1 : Int32) (x2 : Int32) : Prop := gG l v lyM 33 me_M_clearRow n (qV v lyM 33 post) 63 [(0, .ref (v.2.2 0)), (1, .int x1), (2, .int x2)] [] σ
abbrev G_M_clearRow_71 (l : Launch) (v : gs_V) (n : Nat) (post : gs_S → Prop) (σ : gs_S) (x1 : Int32) (x2 : Int32) : Prop := gG l v lyM 33 me_M_clearRow n (qV v lyM 33 post) 71 [(0, .ref (v.2.2 0)), (1, .int x1), (2, .int x2)] [] σ
set_option maxRecDepth 20000 in
set_option maxHeartbeats 1000000 in
theorem T_M_clearRow_0 {l : Launch} {v : gs_V} {n : Nat} {post : gs_S → Prop} {σ : gs_S} {x1 : Int32} (h : G_M_clearRow_2 l v n post σ x1 1) : G_M_clearRow_0 l v n post σ x1 := by
  refine g_iconst d_M_clearRow_0 (x := 1) (by decide) ?_
  refine g_istore_n (L' := [(2, .int 1), (0, .ref (v.2.2 0)), (1, .int x1)]) d_M_clearRow_1 rfl (by decide) rfl ?_
  exact g_sub [1, 2, 0] rfl h
set_option maxRecDepth 20000 in
set_option maxHeartbeats 1000000 in
theorem T_M_clearRow_2 {l : Launch} {v : gs_V} {n : Nat} {post : gs_S → Prop} {σ : gs_S} {x1 : Int32} {x2 : Int32} (h : ((4 ≤ x2 → G_M_clearRow_33 l v n post σ x1 (x1 - 1)) ∧ (¬ 4 ≤ x2 → vp_in ((4 * x1) + x2) 16 ∧ vp_in x2 4 ∧ G_M_clearRow_2 l v n post (gs_pL σ 24 x2.toNatClampNeg (σ.2.1 23 (((4 * x1) + x2).toNatClampNeg))) x1 (x2 + 1)))) : G_M_clearRow_2 l v n post σ x1 x2 := by
  refine g_iload_n d_M_clearRow_2 2 rfl rfl ?_
  refine g_iconst d_M_clearRow_3 (x := 4) (by decide) ?_
  refine g_icmp_ge (tgt := 29) d_M_clearRow_4 rfl (fun hc => ?_) (fun hc => ?_)
  · have h := h.1 hc
    refine g_iload_n d_M_clearRow_29 1 rfl rfl ?_
    refine g_iconst d_M_clearRow_30 (x := 1) (by decide) ?_
    refine g_isub d_M_clearRow_31 ?_
    refine g_istore_n (L' := [(2, .int (x1 - 1)), (0, .ref (v.2.2 0)), (1, .int x1)]) d_M_clearRow_32 rfl (by decide) rfl ?_
    exact g_sub [1, 2, 0] rfl h
  · have h := h.2 hc
    refine g_aload_n d_M_clearRow_7 0 rfl rfl ?_
    refine g_getV (x := .ref (v.2.2 24)) d_M_clearRow_8 fl_M_85 (by decide) rfl rfl rfl ?_
    refine g_iload_n d_M_clearRow_11 2 rfl rfl ?_
    refine g_aload_n d_M_clearRow_12 0 rfl rfl ?_
    refine g_getV (x := .ref (v.2.2 23)) d_M_clearRow_13 fl_M_81 (by decide) rfl rfl rfl ?_
    refine g_iconst d_M_clearRow_16 (x := 4) (by decide) ?_
    refine g_iload_n d_M_clearRow_17 1 rfl rfl ?_
    refine g_imul d_M_clearRow_18 ?_
    refine g_iload_n d_M_clearRow_19 2 rfl rfl ?_
    refine g_iadd d_M_clearRow_20 ?_
    have hi1 := h.1
    have h := h.2
    refine g_lald (x := σ.2.1 23 (((4 * x1) + x2).toNatClampNeg)) d_M_clearRow_21 (by decide) rfl hi1 rfl ?_
    have hi2 := h.1
    have h := h.2
    refine g_last d_M_clearRow_22 (by decide) rfl hi2 ?_
    refine g_iinc (L' := [(2, .int (x2 + 1)), (0, .ref (v.2.2 0)), (1, .int x1)]) d_M_clearRow_23 2 rfl (by rfl) (by decide) rfl ?_
    refine g_goto (tgt := 2) d_M_clearRow_26 rfl ?_
    exact g_sub [1, 2, 0] rfl h
set_option maxRecDepth 20000 in
set_option maxHeartbeats 1000000 in
theorem T_M_clearRow_33 {l : Launch} {v : gs_V} {n : Nat} {post : gs_S → Prop} {σ : gs_S} {x1 : Int32} {x2 : Int32} (h : ((x2 ≤ 0 → G_M_clearRow_71 l v n post σ x1 1) ∧ (¬ x2 ≤ 0 → vp_in x2 4 ∧ (((σ.1 22 x2.toNatClampNeg) = 0 → G_M_clearRow_63 l v n post σ x1 x2) ∧ (¬ (σ.1 22 x2.toNatClampNeg) = 0 → vp_in x2 4 ∧ (((σ.2.1 24 x2.toNatClampNeg) = 0 → G_M_clearRow_63 l v n post σ x1 x2) ∧ (¬ (σ.2.1 24 x2.toNatClampNeg) = 0 → gM l v lyM 33 me_M_reduce n [.ref (v.2.2 0), .int x2, .int x2] σ (qV v lyM 33 (fun σ3 => G_M_clearRow_63 l v n post σ3 x1 x2))))))))) : G_M_clearRow_33 l v n post σ x1 x2 := by
  refine g_iload_n d_M_clearRow_33 2 rfl rfl ?_
  refine g_if_le (tgt := 69) d_M_clearRow_34 rfl (fun hc => ?_) (fun hc => ?_)
  · have h := h.1 hc
    refine g_iconst d_M_clearRow_69 (x := 1) (by decide) ?_
    refine g_istore_n (L' := [(2, .int 1), (0, .ref (v.2.2 0)), (1, .int x1)]) d_M_clearRow_70 rfl (by decide) rfl ?_
    exact g_sub [1, 2, 0] rfl h
  · have h := h.2 hc
    refine g_aload_n d_M_clearRow_37 0 rfl rfl ?_
    refine g_getV (x := .ref (v.2.2 22)) d_M_clearRow_38 fl_M_78 (by decide) rfl rfl rfl ?_
    refine g_iload_n d_M_clearRow_41 2 rfl rfl ?_
    have hi1 := h.1
    have h := h.2
    refine g_zald (x := σ.1 22 x2.toNatClampNeg) d_M_clearRow_42 (by decide) rfl hi1 rfl ?_
    refine g_if_eq (tgt := 63) d_M_clearRow_43 rfl (fun hc => ?_) (fun hc => ?_)
    · have h := h.1 hc
      exact h
    · have h := h.2 hc
      refine g_aload_n d_M_clearRow_46 0 rfl rfl ?_
      refine g_getV (x := .ref (v.2.2 24)) d_M_clearRow_47 fl_M_85 (by decide) rfl rfl rfl ?_
      refine g_iload_n d_M_clearRow_50 2 rfl rfl ?_
      have hi2 := h.1
      have h := h.2
      refine g_lald (x := σ.2.1 24 x2.toNatClampNeg) d_M_clearRow_51 (by decide) rfl hi2 rfl ?_
      refine g_lconst d_M_clearRow_52 (x := 0) (by decide) ?_
      refine g_lcmp_eq (tgt := 63) d_M_clearRow_53 d_M_clearRow_54 rfl (fun hc => ?_) (fun hc => ?_)
      · have h := h.1 hc
        exact h
      · have h := h.2 hc
        refine g_aload_n d_M_clearRow_57 0 rfl rfl ?_
        refine g_iload_n d_M_clearRow_58 2 rfl rfl ?_
        refine g_iload_n d_M_clearRow_59 2 rfl rfl ?_
        refine g_callVv (av := [.int x2, .int x2]) (rest := []) d_M_clearRow_60 Y_M_reduce lk_M_252 (by decide) rfl rfl I_M_reduce rfl (Nat.le_of_ble_eq_true rfl) rfl h (fun σ3 h => ?_)
        exact h
set_option maxRecDepth 20000 in
set_option maxHeartbeats 1000000 in
theorem T_M_clearRow_63 {l : Launch} {v : gs_V} {n : Nat} {post : gs_S → Prop} {σ : gs_S} {x1 : Int32} {x2 : Int32} (h : G_M_clearRow_33 l v n post σ x1 (x2 + (-1))) : G_M_clearRow_63 l v n post σ x1 x2 := by
  refine g_iinc (L' := [(2, .int (x2 + (-1))), (0, .ref (v.2.2 0)), (1, .int x1)]) d_M_clearRow_63 2 rfl (by rfl) (by decide) rfl ?_
  refine g_goto (tgt := 33) d_M_clearRow_66 rfl ?_
  exact g_sub [1, 2, 0] rfl h
set_option maxRecDepth 20000 in
set_option maxHeartbeats 1000000 in
theorem T_M_clearRow_71 {l : Launch} {v : gs_V} {n : Nat} {post : gs_S → Prop} {σ : gs_S} {x1 : Int32} {x2 : Int32} (h : ((4 ≤ x2 → post σ) ∧ (¬ 4 ≤ x2 → vp_in x2 4 ∧ vp_in ((4 * x1) + x2) 16 ∧ G_M_clearRow_71 l v n post (gs_pL σ 23 (((4 * x1) + x2).toNatClampNeg) (σ.2.1 24 x2.toNatClampNeg)) x1 (x2 + 1)))) : G_M_clearRow_71 l v n post σ x1 x2 := by
  refine g_iload_n d_M_clearRow_71 2 rfl rfl ?_
  refine g_iconst d_M_clearRow_72 (x := 4) (by decide) ?_
  refine g_icmp_ge (tgt := 98) d_M_clearRow_73 rfl (fun hc => ?_) (fun hc => ?_)
  · have h := h.1 hc
    exact g_vret d_M_clearRow_98 rfl h
  · have h := h.2 hc
    refine g_aload_n d_M_clearRow_76 0 rfl rfl ?_
    refine g_getV (x := .ref (v.2.2 23)) d_M_clearRow_77 fl_M_81 (by decide) rfl rfl rfl ?_
    refine g_iconst d_M_clearRow_80 (x := 4) (by decide) ?_
    refine g_iload_n d_M_clearRow_81 1 rfl rfl ?_
    refine g_imul d_M_clearRow_82 ?_
    refine g_iload_n d_M_clearRow_83 2 rfl rfl ?_
    refine g_iadd d_M_clearRow_84 ?_
    refine g_aload_n d_M_clearRow_85 0 rfl rfl ?_
    refine g_getV (x := .ref (v.2.2 24)) d_M_clearRow_86 fl_M_85 (by decide) rfl rfl rfl ?_
    refine g_iload_n d_M_clearRow_89 2 rfl rfl ?_
    have hi1 := h.1
    have h := h.2
    refine g_lald (x := σ.2.1 24 x2.toNatClampNeg) d_M_clearRow_90 (by decide) rfl hi1 rfl ?_
    have hi2 := h.1
    have h := h.2
    refine g_last d_M_clearRow_91 (by decide) rfl hi2 ?_
    refine g_iinc (L' := [(2, .int (x2 + 1)), (0, .ref (v.2.2 0)), (1, .int x1)]) d_M_clearRow_92 2 rfl (by rfl) (by decide) rfl ?_
    refine g_goto (tgt := 71) d_M_clearRow_95 rfl ?_
    exact g_sub [1, 2, 0] rfl h
theorem E_M_clearRow {l : Launch} {v : gs_V} {n : Nat} {post : gs_S → Prop} {σ : gs_S} {x1 : Int32} (h : G_M_clearRow_0 l v n post σ x1) : gM l v lyM 33 me_M_clearRow (n + 1) [.ref (v.2.2 0), .int x1] σ (qV v lyM 33 post) := gM_of (by decide +kernel) (Nat.le_of_ble_eq_true rfl) h
/-! LineRulesModel.comesFrom -/
theorem d_M_comesFrom_0 : decode me_M_comesFrom.2.1 0 = .ok (.iconst 0, 1) := by decide +kernel
theorem d_M_comesFrom_1 : decode me_M_comesFrom.2.1 1 = .ok (.istore_n 3, 1) := by decide +kernel
theorem d_M_comesFrom_2 : decode me_M_comesFrom.2.1 2 = .ok (.iload_n 3, 1) := by decide +kernel
theorem d_M_comesFrom_3 : decode me_M_comesFrom.2.1 3 = .ok (.aload_n 0, 1) := by decide +kernel
theorem d_M_comesFrom_4 : decode me_M_comesFrom.2.1 4 = .ok (.getfield 179, 3) := by decide +kernel
theorem d_M_comesFrom_7 : decode me_M_comesFrom.2.1 7 = .ok (.if_icmp .ge 113, 3) := by decide +kernel
theorem d_M_comesFrom_10 : decode me_M_comesFrom.2.1 10 = .ok (.iconst 0, 1) := by decide +kernel
theorem d_M_comesFrom_11 : decode me_M_comesFrom.2.1 11 = .ok (.istore 4, 2) := by decide +kernel
theorem d_M_comesFrom_13 : decode me_M_comesFrom.2.1 13 = .ok (.iload 4, 2) := by decide +kernel
theorem d_M_comesFrom_15 : decode me_M_comesFrom.2.1 15 = .ok (.aload_n 0, 1) := by decide +kernel
theorem d_M_comesFrom_16 : decode me_M_comesFrom.2.1 16 = .ok (.getfield 179, 3) := by decide +kernel
theorem d_M_comesFrom_19 : decode me_M_comesFrom.2.1 19 = .ok (.if_icmp .ge 95, 3) := by decide +kernel
theorem d_M_comesFrom_22 : decode me_M_comesFrom.2.1 22 = .ok (.iload_n 3, 1) := by decide +kernel
theorem d_M_comesFrom_23 : decode me_M_comesFrom.2.1 23 = .ok (.aload_n 0, 1) := by decide +kernel
theorem d_M_comesFrom_24 : decode me_M_comesFrom.2.1 24 = .ok (.getfield 188, 3) := by decide +kernel
theorem d_M_comesFrom_27 : decode me_M_comesFrom.2.1 27 = .ok (.imul, 1) := by decide +kernel
theorem d_M_comesFrom_28 : decode me_M_comesFrom.2.1 28 = .ok (.iload_n 1, 1) := by decide +kernel
theorem d_M_comesFrom_29 : decode me_M_comesFrom.2.1 29 = .ok (.iadd, 1) := by decide +kernel
theorem d_M_comesFrom_30 : decode me_M_comesFrom.2.1 30 = .ok (.aload_n 0, 1) := by decide +kernel
theorem d_M_comesFrom_31 : decode me_M_comesFrom.2.1 31 = .ok (.getfield 179, 3) := by decide +kernel
theorem d_M_comesFrom_34 : decode me_M_comesFrom.2.1 34 = .ok (.idiv, 1) := by decide +kernel
theorem d_M_comesFrom_35 : decode me_M_comesFrom.2.1 35 = .ok (.istore 5, 2) := by decide +kernel
theorem d_M_comesFrom_37 : decode me_M_comesFrom.2.1 37 = .ok (.iload 4, 2) := by decide +kernel
theorem d_M_comesFrom_39 : decode me_M_comesFrom.2.1 39 = .ok (.aload_n 0, 1) := by decide +kernel
theorem d_M_comesFrom_40 : decode me_M_comesFrom.2.1 40 = .ok (.getfield 188, 3) := by decide +kernel
theorem d_M_comesFrom_43 : decode me_M_comesFrom.2.1 43 = .ok (.imul, 1) := by decide +kernel
theorem d_M_comesFrom_44 : decode me_M_comesFrom.2.1 44 = .ok (.iload_n 2, 1) := by decide +kernel
theorem d_M_comesFrom_45 : decode me_M_comesFrom.2.1 45 = .ok (.iadd, 1) := by decide +kernel
theorem d_M_comesFrom_46 : decode me_M_comesFrom.2.1 46 = .ok (.aload_n 0, 1) := by decide +kernel
theorem d_M_comesFrom_47 : decode me_M_comesFrom.2.1 47 = .ok (.getfield 179, 3) := by decide +kernel
theorem d_M_comesFrom_50 : decode me_M_comesFrom.2.1 50 = .ok (.idiv, 1) := by decide +kernel
theorem d_M_comesFrom_51 : decode me_M_comesFrom.2.1 51 = .ok (.istore 6, 2) := by decide +kernel
theorem d_M_comesFrom_53 : decode me_M_comesFrom.2.1 53 = .ok (.iload 5, 2) := by decide +kernel
theorem d_M_comesFrom_55 : decode me_M_comesFrom.2.1 55 = .ok (.iload 6, 2) := by decide +kernel
theorem d_M_comesFrom_57 : decode me_M_comesFrom.2.1 57 = .ok (.if_icmp .eq 19, 3) := by decide +kernel
theorem d_M_comesFrom_60 : decode me_M_comesFrom.2.1 60 = .ok (.aload_n 0, 1) := by decide +kernel
theorem d_M_comesFrom_61 : decode me_M_comesFrom.2.1 61 = .ok (.getfield 69, 3) := by decide +kernel
theorem d_M_comesFrom_64 : decode me_M_comesFrom.2.1 64 = .ok (.bipush 64, 2) := by decide +kernel
theorem d_M_comesFrom_66 : decode me_M_comesFrom.2.1 66 = .ok (.iload 5, 2) := by decide +kernel
theorem d_M_comesFrom_68 : decode me_M_comesFrom.2.1 68 = .ok (.imul, 1) := by decide +kernel
theorem d_M_comesFrom_69 : decode me_M_comesFrom.2.1 69 = .ok (.iload 6, 2) := by decide +kernel
theorem d_M_comesFrom_71 : decode me_M_comesFrom.2.1 71 = .ok (.iadd, 1) := by decide +kernel
theorem d_M_comesFrom_72 : decode me_M_comesFrom.2.1 72 = .ok (.baload, 1) := by decide +kernel
theorem d_M_comesFrom_73 : decode me_M_comesFrom.2.1 73 = .ok (.ifCond .eq 35, 3) := by decide +kernel
theorem d_M_comesFrom_76 : decode me_M_comesFrom.2.1 76 = .ok (.aload_n 0, 1) := by decide +kernel
theorem d_M_comesFrom_77 : decode me_M_comesFrom.2.1 77 = .ok (.getfield 13, 3) := by decide +kernel
theorem d_M_comesFrom_80 : decode me_M_comesFrom.2.1 80 = .ok (.iload_n 3, 1) := by decide +kernel
theorem d_M_comesFrom_81 : decode me_M_comesFrom.2.1 81 = .ok (.aload_n 0, 1) := by decide +kernel
theorem d_M_comesFrom_82 : decode me_M_comesFrom.2.1 82 = .ok (.getfield 188, 3) := by decide +kernel
theorem d_M_comesFrom_85 : decode me_M_comesFrom.2.1 85 = .ok (.imul, 1) := by decide +kernel
theorem d_M_comesFrom_86 : decode me_M_comesFrom.2.1 86 = .ok (.iload_n 1, 1) := by decide +kernel
theorem d_M_comesFrom_87 : decode me_M_comesFrom.2.1 87 = .ok (.iadd, 1) := by decide +kernel
theorem d_M_comesFrom_88 : decode me_M_comesFrom.2.1 88 = .ok (.iaload, 1) := by decide +kernel
theorem d_M_comesFrom_89 : decode me_M_comesFrom.2.1 89 = .ok (.aload_n 0, 1) := by decide +kernel
theorem d_M_comesFrom_90 : decode me_M_comesFrom.2.1 90 = .ok (.getfield 13, 3) := by decide +kernel
theorem d_M_comesFrom_93 : decode me_M_comesFrom.2.1 93 = .ok (.iload 4, 2) := by decide +kernel
theorem d_M_comesFrom_95 : decode me_M_comesFrom.2.1 95 = .ok (.aload_n 0, 1) := by decide +kernel
theorem d_M_comesFrom_96 : decode me_M_comesFrom.2.1 96 = .ok (.getfield 188, 3) := by decide +kernel
theorem d_M_comesFrom_99 : decode me_M_comesFrom.2.1 99 = .ok (.imul, 1) := by decide +kernel
theorem d_M_comesFrom_100 : decode me_M_comesFrom.2.1 100 = .ok (.iload_n 2, 1) := by decide +kernel
theorem d_M_comesFrom_101 : decode me_M_comesFrom.2.1 101 = .ok (.iadd, 1) := by decide +kernel
theorem d_M_comesFrom_102 : decode me_M_comesFrom.2.1 102 = .ok (.iaload, 1) := by decide +kernel
theorem d_M_comesFrom_103 : decode me_M_comesFrom.2.1 103 = .ok (.if_icmp .ne 5, 3) := by decide +kernel
theorem d_M_comesFrom_106 : decode me_M_comesFrom.2.1 106 = .ok (.iconst 1, 1) := by decide +kernel
theorem d_M_comesFrom_107 : decode me_M_comesFrom.2.1 107 = .ok (.ireturn, 1) := by decide +kernel
theorem d_M_comesFrom_108 : decode me_M_comesFrom.2.1 108 = .ok (.iinc 4 1, 3) := by decide +kernel
theorem d_M_comesFrom_111 : decode me_M_comesFrom.2.1 111 = .ok (.goto (-98), 3) := by decide +kernel
theorem d_M_comesFrom_114 : decode me_M_comesFrom.2.1 114 = .ok (.iinc 3 1, 3) := by decide +kernel
theorem d_M_comesFrom_117 : decode me_M_comesFrom.2.1 117 = .ok (.goto (-115), 3) := by decide +kernel
theorem d_M_comesFrom_120 : decode me_M_comesFrom.2.1 120 = .ok (.iconst 0, 1) := by decide +kernel
theorem d_M_comesFrom_121 : decode me_M_comesFrom.2.1 121 = .ok (.ireturn, 1) := by decide +kernel
abbrev G_M_comesFrom_0 (l : Launch) (v : gs_V) (n : Nat) (post : Int32 → gs_S → Prop) (σ : gs_S) (x1 : Int32) (x2 : Int32) : Prop := gG l v lyM 33 me_M_comesFrom n (qI v lyM 33 post) 0 [(0, .ref (v.2.2 0)), (1, .int x1), (2, .int x2)] [] σ
abbrev G_M_comesFrom_2 (l : Launch) (v : gs_V) (n : Nat) (post : Int32 → gs_S → Prop) (σ : gs_S) (x1 : Int32) (x2 : Int32) (x3 : Int32) : Prop := gG l v lyM 33 me_M_comesFrom n (qI v lyM 33 post) 2 [(0, .ref (v.2.2 0)), (1, .int x1), (2, .int x2), (3, .int x3)] [] σ
abbrev G_M_comesFrom_13 (l : Launch) (v : gs_V) (n : Nat) (post : Int32 → gs_S → Prop) (σ : gs_S) (x1 : Int32) (x2 : Int32) (x3 : Int32) (x4 : Int32) : Prop := gG l v lyM 33 me_M_comesFrom n (qI v lyM 33 post) 13 [(0, .ref (v.2.2 0)), (1, .int x1), (2, .int x2), (3, .int x3), (4, .int x4)] [] σ
abbrev G_M_comesFrom_76 (l : Launch) (v : gs_V) (n : Nat) (post : Int32 → gs_S → Prop) (σ : gs_S) (x1 : Int32) (x2 : Int32) (x3 : Int32) (x4 : Int32) : Prop := gG l v lyM 33 me_M_comesFrom n (qI v lyM 33 post) 76 [(0, .ref (v.2.2 0)), (1, .int x1), (2, .int x2), (3, .int x3), (4, .int x4)] [] σ
abbrev G_M_comesFrom_108 (l : Launch) (v : gs_V) (n : Nat) (post : Int32 → gs_S → Prop) (σ : gs_S) (x1 : Int32) (x2 : Int32) (x3 : Int32) (x4 : Int32) : Prop := gG l v lyM 33 me_M_comesFrom n (qI v lyM 33 post) 108 [(0, .ref (v.2.2 0)), (1, .int x1), (2, .int x2), (3, .int x3), (4, .int x4)] [] σ
set_option maxRecDepth 20000 in
set_option maxHeartbeats 1000000 in
theorem T_M_comesFrom_0 {l : Launch} {v : gs_V} {n : Nat} {post : Int32 → gs_S → Prop} {σ : gs_S} {x1 : Int32} {x2 : Int32} (h : G_M_comesFrom_2 l v n post σ x1 x2 0) : G_M_comesFrom_0 l v n post σ x1 x2 := by
  refine g_iconst d_M_comesFrom_0 (x := 0) (by decide) ?_
  refine g_istore_n (L' := [(3, .int 0), (0, .ref (v.2.2 0)), (1, .int x1), (2, .int x2)]) d_M_comesFrom_1 rfl (by decide) rfl ?_
  exact g_sub [1, 2, 3, 0] rfl h
set_option maxRecDepth 20000 in
set_option maxHeartbeats 1000000 in
theorem T_M_comesFrom_2 {l : Launch} {v : gs_V} {n : Nat} {post : Int32 → gs_S → Prop} {σ : gs_S} {x1 : Int32} {x2 : Int32} {x3 : Int32} (h : (((σ.1 0 2) ≤ x3 → post 0 σ) ∧ (¬ (σ.1 0 2) ≤ x3 → G_M_comesFrom_13 l v n post σ x1 x2 x3 0))) : G_M_comesFrom_2 l v n post σ x1 x2 x3 := by
  refine g_iload_n d_M_comesFrom_2 3 rfl rfl ?_
  refine g_aload_n d_M_comesFrom_3 0 rfl rfl ?_
  refine g_getV (x := .int (σ.1 0 2)) d_M_comesFrom_4 fl_M_179 (by decide) rfl rfl rfl ?_
  refine g_icmp_ge (tgt := 120) d_M_comesFrom_7 rfl (fun hc => ?_) (fun hc => ?_)
  · have h := h.1 hc
    refine g_iconst d_M_comesFrom_120 (x := 0) (by decide) ?_
    exact g_zret d_M_comesFrom_121 rfl rfl h
  · have h := h.2 hc
    refine g_iconst d_M_comesFrom_10 (x := 0) (by decide) ?_
    refine g_istore (L' := [(4, .int 0), (0, .ref (v.2.2 0)), (1, .int x1), (2, .int x2), (3, .int x3)]) d_M_comesFrom_11 (by decide) rfl ?_
    exact g_sub [1, 2, 3, 4, 0] rfl h
set_option maxRecDepth 20000 in
set_option maxHeartbeats 1000000 in
theorem T_M_comesFrom_13 {l : Launch} {v : gs_V} {n : Nat} {post : Int32 → gs_S → Prop} {σ : gs_S} {x1 : Int32} {x2 : Int32} {x3 : Int32} {x4 : Int32} (h : (((σ.1 0 2) ≤ x4 → G_M_comesFrom_2 l v n post σ x1 x2 (x3 + 1)) ∧ (¬ (σ.1 0 2) ≤ x4 → ¬ (σ.1 0 2) = 0 ∧ ¬ (σ.1 0 2) = 0 ∧ (((((x3 * (σ.1 0 4)) + x1) / (σ.1 0 2)) = (((x4 * (σ.1 0 4)) + x2) / (σ.1 0 2)) → G_M_comesFrom_76 l v n post σ x1 x2 x3 x4) ∧ (¬ (((x3 * (σ.1 0 4)) + x1) / (σ.1 0 2)) = (((x4 * (σ.1 0 4)) + x2) / (σ.1 0 2)) → vp_in ((64 * (((x3 * (σ.1 0 4)) + x1) / (σ.1 0 2))) + (((x4 * (σ.1 0 4)) + x2) / (σ.1 0 2))) 4096 ∧ (((σ.1 19 (((64 * (((x3 * (σ.1 0 4)) + x1) / (σ.1 0 2))) + (((x4 * (σ.1 0 4)) + x2) / (σ.1 0 2))).toNatClampNeg)) = 0 → G_M_comesFrom_108 l v n post σ x1 x2 x3 x4) ∧ (¬ (σ.1 19 (((64 * (((x3 * (σ.1 0 4)) + x1) / (σ.1 0 2))) + (((x4 * (σ.1 0 4)) + x2) / (σ.1 0 2))).toNatClampNeg)) = 0 → G_M_comesFrom_76 l v n post σ x1 x2 x3 x4))))))) : G_M_comesFrom_13 l v n post σ x1 x2 x3 x4 := by
  refine g_iload d_M_comesFrom_13 4 rfl ?_
  refine g_aload_n d_M_comesFrom_15 0 rfl rfl ?_
  refine g_getV (x := .int (σ.1 0 2)) d_M_comesFrom_16 fl_M_179 (by decide) rfl rfl rfl ?_
  refine g_icmp_ge (tgt := 114) d_M_comesFrom_19 rfl (fun hc => ?_) (fun hc => ?_)
  · have h := h.1 hc
    refine g_iinc (L' := [(3, .int (x3 + 1)), (0, .ref (v.2.2 0)), (1, .int x1), (2, .int x2), (4, .int x4)]) d_M_comesFrom_114 3 rfl (by rfl) (by decide) rfl ?_
    refine g_goto (tgt := 2) d_M_comesFrom_117 rfl ?_
    exact g_sub [1, 2, 3, 0] rfl h
  · have h := h.2 hc
    refine g_iload_n d_M_comesFrom_22 3 rfl rfl ?_
    refine g_aload_n d_M_comesFrom_23 0 rfl rfl ?_
    refine g_getV (x := .int (σ.1 0 4)) d_M_comesFrom_24 fl_M_188 (by decide) rfl rfl rfl ?_
    refine g_imul d_M_comesFrom_27 ?_
    refine g_iload_n d_M_comesFrom_28 1 rfl rfl ?_
    refine g_iadd d_M_comesFrom_29 ?_
    refine g_aload_n d_M_comesFrom_30 0 rfl rfl ?_
    refine g_getV (x := .int (σ.1 0 2)) d_M_comesFrom_31 fl_M_179 (by decide) rfl rfl rfl ?_
    refine g_idiv d_M_comesFrom_34 h.1 ?_
    have h := h.2
    refine g_istore (L' := [(5, .int (((x3 * (σ.1 0 4)) + x1) / (σ.1 0 2))), (0, .ref (v.2.2 0)), (1, .int x1), (2, .int x2), (3, .int x3), (4, .int x4)]) d_M_comesFrom_35 (by decide) rfl ?_
    refine g_iload d_M_comesFrom_37 5 rfl ?_
    refine g_aload_n d_M_comesFrom_39 1 rfl rfl ?_
    refine g_getV (x := .int (σ.1 0 4)) d_M_comesFrom_40 fl_M_188 (by decide) rfl rfl rfl ?_
    refine g_imul d_M_comesFrom_43 ?_
    refine g_iload_n d_M_comesFrom_44 3 rfl rfl ?_
    refine g_iadd d_M_comesFrom_45 ?_
    refine g_aload_n d_M_comesFrom_46 1 rfl rfl ?_
    refine g_getV (x := .int (σ.1 0 2)) d_M_comesFrom_47 fl_M_179 (by decide) rfl rfl rfl ?_
    refine g_idiv d_M_comesFrom_50 h.1 ?_
    have h := h.2
    refine g_istore (L' := [(6, .int (((x4 * (σ.1 0 4)) + x2) / (σ.1 0 2))), (5, .int (((x3 * (σ.1 0 4)) + x1) / (σ.1 0 2))), (0, .ref (v.2.2 0)), (1, .int x1), (2, .int x2), (3, .int x3), (4, .int x4)]) d_M_comesFrom_51 (by decide) rfl ?_
    refine g_iload d_M_comesFrom_53 1 rfl ?_
    refine g_iload d_M_comesFrom_55 0 rfl ?_
    refine g_icmp_eq (tgt := 76) d_M_comesFrom_57 rfl (fun hc => ?_) (fun hc => ?_)
    · have h := h.1 hc
      exact g_sub [2, 3, 4, 5, 6] rfl h
    · have h := h.2 hc
      refine g_aload_n d_M_comesFrom_60 2 rfl rfl ?_
      refine g_getV (x := .ref (v.2.2 19)) d_M_comesFrom_61 fl_M_69 (by decide) rfl rfl rfl ?_
      refine g_bipush d_M_comesFrom_64 (x := 64) (by decide) ?_
      refine g_iload d_M_comesFrom_66 1 rfl ?_
      refine g_imul d_M_comesFrom_68 ?_
      refine g_iload d_M_comesFrom_69 0 rfl ?_
      refine g_iadd d_M_comesFrom_71 ?_
      have hi1 := h.1
      have h := h.2
      refine g_zald (x := σ.1 19 (((64 * (((x3 * (σ.1 0 4)) + x1) / (σ.1 0 2))) + (((x4 * (σ.1 0 4)) + x2) / (σ.1 0 2))).toNatClampNeg)) d_M_comesFrom_72 (by decide) rfl hi1 rfl ?_
      refine g_if_eq (tgt := 108) d_M_comesFrom_73 rfl (fun hc => ?_) (fun hc => ?_)
      · have h := h.1 hc
        exact g_sub [2, 3, 4, 5, 6] rfl h
      · have h := h.2 hc
        exact g_sub [2, 3, 4, 5, 6] rfl h
set_option maxRecDepth 20000 in
set_option maxHeartbeats 1000000 in
theorem T_M_comesFrom_76 {l : Launch} {v : gs_V} {n : Nat} {post : Int32 → gs_S → Prop} {σ : gs_S} {x1 : Int32} {x2 : Int32} {x3 : Int32} {x4 : Int32} (h : vp_in ((x3 * (σ.1 0 4)) + x1) 256 ∧ vp_in ((x4 * (σ.1 0 4)) + x2) 256 ∧ ((¬ (σ.1 2 (((x3 * (σ.1 0 4)) + x1).toNatClampNeg)) = (σ.1 2 (((x4 * (σ.1 0 4)) + x2).toNatClampNeg)) → G_M_comesFrom_108 l v n post σ x1 x2 x3 x4) ∧ ((σ.1 2 (((x3 * (σ.1 0 4)) + x1).toNatClampNeg)) = (σ.1 2 (((x4 * (σ.1 0 4)) + x2).toNatClampNeg)) → post 1 σ))) : G_M_comesFrom_76 l v n post σ x1 x2 x3 x4 := by
  refine g_aload_n d_M_comesFrom_76 0 rfl rfl ?_
  refine g_getV (x := .ref (v.2.2 2)) d_M_comesFrom_77 fl_M_13 (by decide) rfl rfl rfl ?_
  refine g_iload_n d_M_comesFrom_80 3 rfl rfl ?_
  refine g_aload_n d_M_comesFrom_81 0 rfl rfl ?_
  refine g_getV (x := .int (σ.1 0 4)) d_M_comesFrom_82 fl_M_188 (by decide) rfl rfl rfl ?_
  refine g_imul d_M_comesFrom_85 ?_
  refine g_iload_n d_M_comesFrom_86 1 rfl rfl ?_
  refine g_iadd d_M_comesFrom_87 ?_
  have hi1 := h.1
  have h := h.2
  refine g_iald (x := σ.1 2 (((x3 * (σ.1 0 4)) + x1).toNatClampNeg)) d_M_comesFrom_88 (by decide) rfl hi1 rfl ?_
  refine g_aload_n d_M_comesFrom_89 0 rfl rfl ?_
  refine g_getV (x := .ref (v.2.2 2)) d_M_comesFrom_90 fl_M_13 (by decide) rfl rfl rfl ?_
  refine g_iload d_M_comesFrom_93 4 rfl ?_
  refine g_aload_n d_M_comesFrom_95 0 rfl rfl ?_
  refine g_getV (x := .int (σ.1 0 4)) d_M_comesFrom_96 fl_M_188 (by decide) rfl rfl rfl ?_
  refine g_imul d_M_comesFrom_99 ?_
  refine g_iload_n d_M_comesFrom_100 2 rfl rfl ?_
  refine g_iadd d_M_comesFrom_101 ?_
  have hi2 := h.1
  have h := h.2
  refine g_iald (x := σ.1 2 (((x4 * (σ.1 0 4)) + x2).toNatClampNeg)) d_M_comesFrom_102 (by decide) rfl hi2 rfl ?_
  refine g_icmp_ne (tgt := 108) d_M_comesFrom_103 rfl (fun hc => ?_) (fun hc => ?_)
  · have h := h.1 hc
    exact h
  · have h := h.2 hc
    refine g_iconst d_M_comesFrom_106 (x := 1) (by decide) ?_
    exact g_zret d_M_comesFrom_107 rfl rfl h
set_option maxRecDepth 20000 in
set_option maxHeartbeats 1000000 in
theorem T_M_comesFrom_108 {l : Launch} {v : gs_V} {n : Nat} {post : Int32 → gs_S → Prop} {σ : gs_S} {x1 : Int32} {x2 : Int32} {x3 : Int32} {x4 : Int32} (h : G_M_comesFrom_13 l v n post σ x1 x2 x3 (x4 + 1)) : G_M_comesFrom_108 l v n post σ x1 x2 x3 x4 := by
  refine g_iinc (L' := [(4, .int (x4 + 1)), (0, .ref (v.2.2 0)), (1, .int x1), (2, .int x2), (3, .int x3)]) d_M_comesFrom_108 4 rfl (by rfl) (by decide) rfl ?_
  refine g_goto (tgt := 13) d_M_comesFrom_111 rfl ?_
  exact g_sub [1, 2, 3, 4, 0] rfl h
theorem E_M_comesFrom {l : Launch} {v : gs_V} {n : Nat} {post : Int32 → gs_S → Prop} {σ : gs_S} {x1 : Int32} {x2 : Int32} (h : G_M_comesFrom_0 l v n post σ x1 x2) : gM l v lyM 33 me_M_comesFrom (n + 1) [.ref (v.2.2 0), .int x1, .int x2] σ (qI v lyM 33 post) := gM_of (by decide +kernel) (Nat.le_of_ble_eq_true rfl) h
/-! LineRulesModel.conserved -/
theorem d_M_conserved_0 : decode me_M_conserved.2.1 0 = .ok (.aload_n 0, 1) := by decide +kernel
theorem d_M_conserved_1 : decode me_M_conserved.2.1 1 = .ok (.getfield 179, 3) := by decide +kernel
theorem d_M_conserved_4 : decode me_M_conserved.2.1 4 = .ok (.ifCond .ne 5, 3) := by decide +kernel
theorem d_M_conserved_7 : decode me_M_conserved.2.1 7 = .ok (.iconst (-1), 1) := by decide +kernel
theorem d_M_conserved_8 : decode me_M_conserved.2.1 8 = .ok (.ireturn, 1) := by decide +kernel
theorem d_M_conserved_9 : decode me_M_conserved.2.1 9 = .ok (.aload_n 0, 1) := by decide +kernel
theorem d_M_conserved_10 : decode me_M_conserved.2.1 10 = .ok (.invokevirtual 267, 3) := by decide +kernel
theorem d_M_conserved_13 : decode me_M_conserved.2.1 13 = .ok (.aload_n 0, 1) := by decide +kernel
theorem d_M_conserved_14 : decode me_M_conserved.2.1 14 = .ok (.getfield 255, 3) := by decide +kernel
theorem d_M_conserved_17 : decode me_M_conserved.2.1 17 = .ok (.ireturn, 1) := by decide +kernel
abbrev G_M_conserved_0 (l : Launch) (v : gs_V) (n : Nat) (post : Int32 → gs_S → Prop) (σ : gs_S) : Prop := gG l v lyM 33 me_M_conserved n (qI v lyM 33 post) 0 [(0, .ref (v.2.2 0))] [] σ
set_option maxRecDepth 20000 in
set_option maxHeartbeats 1000000 in
theorem T_M_conserved_0 {l : Launch} {v : gs_V} {n : Nat} {post : Int32 → gs_S → Prop} {σ : gs_S} (h : ((¬ (σ.1 0 2) = 0 → gM l v lyM 33 me_M_findWeights n [.ref (v.2.2 0)] σ (qV v lyM 33 (fun σ1 => post (σ1.1 0 36) σ1))) ∧ ((σ.1 0 2) = 0 → post ((-1)) σ))) : G_M_conserved_0 l v n post σ := by
  refine g_aload_n d_M_conserved_0 0 rfl rfl ?_
  refine g_getV (x := .int (σ.1 0 2)) d_M_conserved_1 fl_M_179 (by decide) rfl rfl rfl ?_
  refine g_if_ne (tgt := 9) d_M_conserved_4 rfl (fun hc => ?_) (fun hc => ?_)
  · have h := h.1 hc
    refine g_aload_n d_M_conserved_9 0 rfl rfl ?_
    refine g_callVv (av := []) (rest := []) d_M_conserved_10 Y_M_findWeights lk_M_267 (by decide) rfl rfl I_M_findWeights rfl (Nat.le_of_ble_eq_true rfl) rfl h (fun σ1 h => ?_)
    refine g_aload_n d_M_conserved_13 0 rfl rfl ?_
    refine g_getV (x := .int (σ1.1 0 36)) d_M_conserved_14 fl_M_255 (by decide) rfl rfl rfl ?_
    exact g_iret d_M_conserved_17 rfl h
  · have h := h.2 hc
    refine g_iconst d_M_conserved_7 (x := (-1)) (by decide) ?_
    exact g_iret d_M_conserved_8 rfl h
theorem E_M_conserved {l : Launch} {v : gs_V} {n : Nat} {post : Int32 → gs_S → Prop} {σ : gs_S} (h : G_M_conserved_0 l v n post σ) : gM l v lyM 33 me_M_conserved (n + 1) [.ref (v.2.2 0)] σ (qI v lyM 33 post) := gM_of (by decide +kernel) (Nat.le_of_ble_eq_true rfl) h
/-! LineRulesModel.digitSum -/
theorem d_M_digitSum_0 : decode me_M_digitSum.2.1 0 = .ok (.iconst 0, 1) := by decide +kernel
theorem d_M_digitSum_1 : decode me_M_digitSum.2.1 1 = .ok (.istore_n 2, 1) := by decide +kernel
theorem d_M_digitSum_2 : decode me_M_digitSum.2.1 2 = .ok (.iload_n 0, 1) := by decide +kernel
theorem d_M_digitSum_3 : decode me_M_digitSum.2.1 3 = .ok (.istore_n 3, 1) := by decide +kernel
theorem d_M_digitSum_4 : decode me_M_digitSum.2.1 4 = .ok (.iload_n 3, 1) := by decide +kernel
theorem d_M_digitSum_5 : decode me_M_digitSum.2.1 5 = .ok (.ifCond .le 16, 3) := by decide +kernel
theorem d_M_digitSum_8 : decode me_M_digitSum.2.1 8 = .ok (.iload_n 2, 1) := by decide +kernel
theorem d_M_digitSum_9 : decode me_M_digitSum.2.1 9 = .ok (.iload_n 3, 1) := by decide +kernel
theorem d_M_digitSum_10 : decode me_M_digitSum.2.1 10 = .ok (.iload_n 1, 1) := by decide +kernel
theorem d_M_digitSum_11 : decode me_M_digitSum.2.1 11 = .ok (.irem, 1) := by decide +kernel
theorem d_M_digitSum_12 : decode me_M_digitSum.2.1 12 = .ok (.iadd, 1) := by decide +kernel
theorem d_M_digitSum_13 : decode me_M_digitSum.2.1 13 = .ok (.istore_n 2, 1) := by decide +kernel
theorem d_M_digitSum_14 : decode me_M_digitSum.2.1 14 = .ok (.iload_n 3, 1) := by decide +kernel
theorem d_M_digitSum_15 : decode me_M_digitSum.2.1 15 = .ok (.iload_n 1, 1) := by decide +kernel
theorem d_M_digitSum_16 : decode me_M_digitSum.2.1 16 = .ok (.idiv, 1) := by decide +kernel
theorem d_M_digitSum_17 : decode me_M_digitSum.2.1 17 = .ok (.istore_n 3, 1) := by decide +kernel
theorem d_M_digitSum_18 : decode me_M_digitSum.2.1 18 = .ok (.goto (-14), 3) := by decide +kernel
theorem d_M_digitSum_21 : decode me_M_digitSum.2.1 21 = .ok (.iload_n 2, 1) := by decide +kernel
theorem d_M_digitSum_22 : decode me_M_digitSum.2.1 22 = .ok (.ireturn, 1) := by decide +kernel
abbrev G_M_digitSum_0 (l : Launch) (v : gs_V) (n : Nat) (post : Int32 → gs_S → Prop) (σ : gs_S) (x0 : Int32) (x1 : Int32) : Prop := gG l v lyM 33 me_M_digitSum n (qI v lyM 33 post) 0 [(0, .int x0), (1, .int x1)] [] σ
abbrev G_M_digitSum_4 (l : Launch) (v : gs_V) (n : Nat) (post : Int32 → gs_S → Prop) (σ : gs_S) (x1 : Int32) (x2 : Int32) (x3 : Int32) : Prop := gG l v lyM 33 me_M_digitSum n (qI v lyM 33 post) 4 [(1, .int x1), (2, .int x2), (3, .int x3)] [] σ
set_option maxRecDepth 20000 in
set_option maxHeartbeats 1000000 in
theorem T_M_digitSum_0 {l : Launch} {v : gs_V} {n : Nat} {post : Int32 → gs_S → Prop} {σ : gs_S} {x0 : Int32} {x1 : Int32} (h : G_M_digitSum_4 l v n post σ x1 0 x0) : G_M_digitSum_0 l v n post σ x0 x1 := by
  refine g_iconst d_M_digitSum_0 (x := 0) (by decide) ?_
  refine g_istore_n (L' := [(2, .int 0), (0, .int x0), (1, .int x1)]) d_M_digitSum_1 rfl (by decide) rfl ?_
  refine g_iload_n d_M_digitSum_2 1 rfl rfl ?_
  refine g_istore_n (L' := [(3, .int x0), (2, .int 0), (0, .int x0), (1, .int x1)]) d_M_digitSum_3 rfl (by decide) rfl ?_
  exact g_sub [3, 1, 0] rfl h
set_option maxRecDepth 20000 in
set_option maxHeartbeats 1000000 in
theorem T_M_digitSum_4 {l : Launch} {v : gs_V} {n : Nat} {post : Int32 → gs_S → Prop} {σ : gs_S} {x1 : Int32} {x2 : Int32} {x3 : Int32} (h : ((x3 ≤ 0 → post x2 σ) ∧ (¬ x3 ≤ 0 → ¬ x1 = 0 ∧ ¬ x1 = 0 ∧ G_M_digitSum_4 l v n post σ x1 (x2 + (jR x3 x1)) (x3 / x1)))) : G_M_digitSum_4 l v n post σ x1 x2 x3 := by
  refine g_iload_n d_M_digitSum_4 2 rfl rfl ?_
  refine g_if_le (tgt := 21) d_M_digitSum_5 rfl (fun hc => ?_) (fun hc => ?_)
  · have h := h.1 hc
    refine g_iload_n d_M_digitSum_21 1 rfl rfl ?_
    exact g_iret d_M_digitSum_22 rfl h
  · have h := h.2 hc
    refine g_iload_n d_M_digitSum_8 1 rfl rfl ?_
    refine g_iload_n d_M_digitSum_9 2 rfl rfl ?_
    refine g_iload_n d_M_digitSum_10 0 rfl rfl ?_
    refine g_irem d_M_digitSum_11 h.1 ?_
    have h := h.2
    refine g_iadd d_M_digitSum_12 ?_
    refine g_istore_n (L' := [(2, .int (x2 + (jR x3 x1))), (1, .int x1), (3, .int x3)]) d_M_digitSum_13 rfl (by decide) rfl ?_
    refine g_iload_n d_M_digitSum_14 2 rfl rfl ?_
    refine g_iload_n d_M_digitSum_15 1 rfl rfl ?_
    refine g_idiv d_M_digitSum_16 h.1 ?_
    have h := h.2
    refine g_istore_n (L' := [(3, .int (x3 / x1)), (2, .int (x2 + (jR x3 x1))), (1, .int x1)]) d_M_digitSum_17 rfl (by decide) rfl ?_
    refine g_goto (tgt := 4) d_M_digitSum_18 rfl ?_
    exact g_sub [2, 1, 0] rfl h
theorem E_M_digitSum {l : Launch} {v : gs_V} {n : Nat} {post : Int32 → gs_S → Prop} {σ : gs_S} {x0 : Int32} {x1 : Int32} (h : G_M_digitSum_0 l v n post σ x0 x1) : gM l v lyM 33 me_M_digitSum (n + 1) [.int x0, .int x1] σ (qI v lyM 33 post) := gM_of (by decide +kernel) (Nat.le_of_ble_eq_true rfl) h
/-! LineRulesModel.divisor -/
theorem d_M_divisor_0 : decode me_M_divisor.2.1 0 = .ok (.lload_n 0, 1) := by decide +kernel
theorem d_M_divisor_1 : decode me_M_divisor.2.1 1 = .ok (.lconst 0, 1) := by decide +kernel
theorem d_M_divisor_2 : decode me_M_divisor.2.1 2 = .ok (.lcmp, 1) := by decide +kernel
theorem d_M_divisor_3 : decode me_M_divisor.2.1 3 = .ok (.ifCond .ge 8, 3) := by decide +kernel
theorem d_M_divisor_6 : decode me_M_divisor.2.1 6 = .ok (.lload_n 0, 1) := by decide +kernel
theorem d_M_divisor_7 : decode me_M_divisor.2.1 7 = .ok (.lneg, 1) := by decide +kernel
theorem d_M_divisor_8 : decode me_M_divisor.2.1 8 = .ok (.goto 4, 3) := by decide +kernel
theorem d_M_divisor_11 : decode me_M_divisor.2.1 11 = .ok (.lload_n 0, 1) := by decide +kernel
theorem d_M_divisor_12 : decode me_M_divisor.2.1 12 = .ok (.lstore 4, 2) := by decide +kernel
theorem d_M_divisor_14 : decode me_M_divisor.2.1 14 = .ok (.lload_n 2, 1) := by decide +kernel
theorem d_M_divisor_15 : decode me_M_divisor.2.1 15 = .ok (.lconst 0, 1) := by decide +kernel
theorem d_M_divisor_16 : decode me_M_divisor.2.1 16 = .ok (.lcmp, 1) := by decide +kernel
theorem d_M_divisor_17 : decode me_M_divisor.2.1 17 = .ok (.ifCond .ge 8, 3) := by decide +kernel
theorem d_M_divisor_20 : decode me_M_divisor.2.1 20 = .ok (.lload_n 2, 1) := by decide +kernel
theorem d_M_divisor_21 : decode me_M_divisor.2.1 21 = .ok (.lneg, 1) := by decide +kernel
theorem d_M_divisor_22 : decode me_M_divisor.2.1 22 = .ok (.goto 4, 3) := by decide +kernel
theorem d_M_divisor_25 : decode me_M_divisor.2.1 25 = .ok (.lload_n 2, 1) := by decide +kernel
theorem d_M_divisor_26 : decode me_M_divisor.2.1 26 = .ok (.lstore 6, 2) := by decide +kernel
theorem d_M_divisor_28 : decode me_M_divisor.2.1 28 = .ok (.lload 6, 2) := by decide +kernel
theorem d_M_divisor_30 : decode me_M_divisor.2.1 30 = .ok (.lconst 0, 1) := by decide +kernel
theorem d_M_divisor_31 : decode me_M_divisor.2.1 31 = .ok (.lcmp, 1) := by decide +kernel
theorem d_M_divisor_32 : decode me_M_divisor.2.1 32 = .ok (.ifCond .le 21, 3) := by decide +kernel
theorem d_M_divisor_35 : decode me_M_divisor.2.1 35 = .ok (.lload 4, 2) := by decide +kernel
theorem d_M_divisor_37 : decode me_M_divisor.2.1 37 = .ok (.lload 6, 2) := by decide +kernel
theorem d_M_divisor_39 : decode me_M_divisor.2.1 39 = .ok (.lrem, 1) := by decide +kernel
theorem d_M_divisor_40 : decode me_M_divisor.2.1 40 = .ok (.lstore 8, 2) := by decide +kernel
theorem d_M_divisor_42 : decode me_M_divisor.2.1 42 = .ok (.lload 6, 2) := by decide +kernel
theorem d_M_divisor_44 : decode me_M_divisor.2.1 44 = .ok (.lstore 4, 2) := by decide +kernel
theorem d_M_divisor_46 : decode me_M_divisor.2.1 46 = .ok (.lload 8, 2) := by decide +kernel
theorem d_M_divisor_48 : decode me_M_divisor.2.1 48 = .ok (.lstore 6, 2) := by decide +kernel
theorem d_M_divisor_50 : decode me_M_divisor.2.1 50 = .ok (.goto (-22), 3) := by decide +kernel
theorem d_M_divisor_53 : decode me_M_divisor.2.1 53 = .ok (.lload 4, 2) := by decide +kernel
theorem d_M_divisor_55 : decode me_M_divisor.2.1 55 = .ok (.lreturn, 1) := by decide +kernel
abbrev G_M_divisor_0 (l : Launch) (v : gs_V) (n : Nat) (post : Int64 → gs_S → Prop) (σ : gs_S) (x0 : Int64) (x2 : Int64) : Prop := gG l v lyM 33 me_M_divisor n (qL v lyM 33 post) 0 [(0, .long x0), (2, .long x2)] [] σ
abbrev G_M_divisor_12 (l : Launch) (v : gs_V) (n : Nat) (post : Int64 → gs_S → Prop) (σ : gs_S) (x2 : Int64) (s0 : Int64) : Prop := gG l v lyM 33 me_M_divisor n (qL v lyM 33 post) 12 [(2, .long x2)] [.long s0] σ
abbrev G_M_divisor_26 (l : Launch) (v : gs_V) (n : Nat) (post : Int64 → gs_S → Prop) (σ : gs_S) (x4 : Int64) (s0 : Int64) : Prop := gG l v lyM 33 me_M_divisor n (qL v lyM 33 post) 26 [(4, .long x4)] [.long s0] σ
abbrev G_M_divisor_28 (l : Launch) (v : gs_V) (n : Nat) (post : Int64 → gs_S → Prop) (σ : gs_S) (x4 : Int64) (x6 : Int64) : Prop := gG l v lyM 33 me_M_divisor n (qL v lyM 33 post) 28 [(4, .long x4), (6, .long x6)] [] σ
set_option maxRecDepth 20000 in
set_option maxHeartbeats 1000000 in
theorem T_M_divisor_0 {l : Launch} {v : gs_V} {n : Nat} {post : Int64 → gs_S → Prop} {σ : gs_S} {x0 : Int64} {x2 : Int64} (h : ((0 ≤ x0 → G_M_divisor_12 l v n post σ x2 x0) ∧ (¬ 0 ≤ x0 → G_M_divisor_12 l v n post σ x2 (-x0)))) : G_M_divisor_0 l v n post σ x0 x2 := by
  refine g_lload_n d_M_divisor_0 0 rfl rfl ?_
  refine g_lconst d_M_divisor_1 (x := 0) (by decide) ?_
  refine g_lcmp_ge (tgt := 11) d_M_divisor_2 d_M_divisor_3 rfl (fun hc => ?_) (fun hc => ?_)
  · have h := h.1 hc
    refine g_lload_n d_M_divisor_11 0 rfl rfl ?_
    exact g_sub [1] rfl h
  · have h := h.2 hc
    refine g_lload_n d_M_divisor_6 0 rfl rfl ?_
    refine g_lneg d_M_divisor_7 ?_
    refine g_goto (tgt := 12) d_M_divisor_8 rfl ?_
    exact g_sub [1] rfl h
set_option maxRecDepth 20000 in
set_option maxHeartbeats 1000000 in
theorem T_M_divisor_12 {l : Launch} {v : gs_V} {n : Nat} {post : Int64 → gs_S → Prop} {σ : gs_S} {x2 : Int64} {s0 : Int64} (h : ((0 ≤ x2 → G_M_divisor_26 l v n post σ s0 x2) ∧ (¬ 0 ≤ x2 → G_M_divisor_26 l v n post σ s0 (-x2)))) : G_M_divisor_12 l v n post σ x2 s0 := by
  refine g_lstore (L' := [(4, .long s0), (2, .long x2)]) d_M_divisor_12 (by decide) rfl ?_
  refine g_lload_n d_M_divisor_14 1 rfl rfl ?_
  refine g_lconst d_M_divisor_15 (x := 0) (by decide) ?_
  refine g_lcmp_ge (tgt := 25) d_M_divisor_16 d_M_divisor_17 rfl (fun hc => ?_) (fun hc => ?_)
  · have h := h.1 hc
    refine g_lload_n d_M_divisor_25 1 rfl rfl ?_
    exact g_sub [0] rfl h
  · have h := h.2 hc
    refine g_lload_n d_M_divisor_20 1 rfl rfl ?_
    refine g_lneg d_M_divisor_21 ?_
    refine g_goto (tgt := 26) d_M_divisor_22 rfl ?_
    exact g_sub [0] rfl h
set_option maxRecDepth 20000 in
set_option maxHeartbeats 1000000 in
theorem T_M_divisor_26 {l : Launch} {v : gs_V} {n : Nat} {post : Int64 → gs_S → Prop} {σ : gs_S} {x4 : Int64} {s0 : Int64} (h : G_M_divisor_28 l v n post σ x4 s0) : G_M_divisor_26 l v n post σ x4 s0 := by
  refine g_lstore (L' := [(6, .long s0), (4, .long x4)]) d_M_divisor_26 (by decide) rfl ?_
  exact g_sub [1, 0] rfl h
set_option maxRecDepth 20000 in
set_option maxHeartbeats 1000000 in
theorem T_M_divisor_28 {l : Launch} {v : gs_V} {n : Nat} {post : Int64 → gs_S → Prop} {σ : gs_S} {x4 : Int64} {x6 : Int64} (h : ((x6 ≤ 0 → post x4 σ) ∧ (¬ x6 ≤ 0 → ¬ x6 = 0 ∧ G_M_divisor_28 l v n post σ x6 (jRL x4 x6)))) : G_M_divisor_28 l v n post σ x4 x6 := by
  refine g_lload d_M_divisor_28 1 rfl ?_
  refine g_lconst d_M_divisor_30 (x := 0) (by decide) ?_
  refine g_lcmp_le (tgt := 53) d_M_divisor_31 d_M_divisor_32 rfl (fun hc => ?_) (fun hc => ?_)
  · have h := h.1 hc
    refine g_lload d_M_divisor_53 0 rfl ?_
    exact g_lret d_M_divisor_55 rfl h
  · have h := h.2 hc
    refine g_lload d_M_divisor_35 0 rfl ?_
    refine g_lload d_M_divisor_37 1 rfl ?_
    refine g_lrem d_M_divisor_39 h.1 ?_
    have h := h.2
    refine g_lstore (L' := [(8, .long (jRL x4 x6)), (4, .long x4), (6, .long x6)]) d_M_divisor_40 (by decide) rfl ?_
    refine g_lload d_M_divisor_42 2 rfl ?_
    refine g_lstore (L' := [(4, .long x6), (8, .long (jRL x4 x6)), (6, .long x6)]) d_M_divisor_44 (by decide) rfl ?_
    refine g_lload d_M_divisor_46 1 rfl ?_
    refine g_lstore (L' := [(6, .long (jRL x4 x6)), (4, .long x6), (8, .long (jRL x4 x6))]) d_M_divisor_48 (by decide) rfl ?_
    refine g_goto (tgt := 28) d_M_divisor_50 rfl ?_
    exact g_sub [1, 0] rfl h
theorem E_M_divisor {l : Launch} {v : gs_V} {n : Nat} {post : Int64 → gs_S → Prop} {σ : gs_S} {x0 : Int64} {x2 : Int64} (h : G_M_divisor_0 l v n post σ x0 x2) : gM l v lyM 33 me_M_divisor (n + 1) [.long x0, .long x2] σ (qL v lyM 33 post) := gM_of (by decide +kernel) (Nat.le_of_ble_eq_true rfl) h
/-! LineRulesModel.endBoth -/
theorem d_M_endBoth_0 : decode me_M_endBoth.2.1 0 = .ok (.aload_n 0, 1) := by decide +kernel
theorem d_M_endBoth_1 : decode me_M_endBoth.2.1 1 = .ok (.getfield 115, 3) := by decide +kernel
theorem d_M_endBoth_4 : decode me_M_endBoth.2.1 4 = .ok (.istore_n 1, 1) := by decide +kernel
theorem d_M_endBoth_5 : decode me_M_endBoth.2.1 5 = .ok (.aload_n 0, 1) := by decide +kernel
theorem d_M_endBoth_6 : decode me_M_endBoth.2.1 6 = .ok (.invokevirtual 132, 3) := by decide +kernel
theorem d_M_endBoth_9 : decode me_M_endBoth.2.1 9 = .ok (.aload_n 0, 1) := by decide +kernel
theorem d_M_endBoth_10 : decode me_M_endBoth.2.1 10 = .ok (.getfield 63, 3) := by decide +kernel
theorem d_M_endBoth_13 : decode me_M_endBoth.2.1 13 = .ok (.iload_n 1, 1) := by decide +kernel
theorem d_M_endBoth_14 : decode me_M_endBoth.2.1 14 = .ok (.aload_n 0, 1) := by decide +kernel
theorem d_M_endBoth_15 : decode me_M_endBoth.2.1 15 = .ok (.getfield 66, 3) := by decide +kernel
theorem d_M_endBoth_18 : decode me_M_endBoth.2.1 18 = .ok (.iload_n 1, 1) := by decide +kernel
theorem d_M_endBoth_19 : decode me_M_endBoth.2.1 19 = .ok (.baload, 1) := by decide +kernel
theorem d_M_endBoth_20 : decode me_M_endBoth.2.1 20 = .ok (.ifCond .eq 27, 3) := by decide +kernel
theorem d_M_endBoth_23 : decode me_M_endBoth.2.1 23 = .ok (.aload_n 0, 1) := by decide +kernel
theorem d_M_endBoth_24 : decode me_M_endBoth.2.1 24 = .ok (.getfield 63, 3) := by decide +kernel
theorem d_M_endBoth_27 : decode me_M_endBoth.2.1 27 = .ok (.iload_n 1, 1) := by decide +kernel
theorem d_M_endBoth_28 : decode me_M_endBoth.2.1 28 = .ok (.iaload, 1) := by decide +kernel
theorem d_M_endBoth_29 : decode me_M_endBoth.2.1 29 = .ok (.aload_n 0, 1) := by decide +kernel
theorem d_M_endBoth_30 : decode me_M_endBoth.2.1 30 = .ok (.getfield 57, 3) := by decide +kernel
theorem d_M_endBoth_33 : decode me_M_endBoth.2.1 33 = .ok (.iload_n 1, 1) := by decide +kernel
theorem d_M_endBoth_34 : decode me_M_endBoth.2.1 34 = .ok (.iaload, 1) := by decide +kernel
theorem d_M_endBoth_35 : decode me_M_endBoth.2.1 35 = .ok (.if_icmp .le 12, 3) := by decide +kernel
theorem d_M_endBoth_38 : decode me_M_endBoth.2.1 38 = .ok (.aload_n 0, 1) := by decide +kernel
theorem d_M_endBoth_39 : decode me_M_endBoth.2.1 39 = .ok (.getfield 63, 3) := by decide +kernel
theorem d_M_endBoth_42 : decode me_M_endBoth.2.1 42 = .ok (.iload_n 1, 1) := by decide +kernel
theorem d_M_endBoth_43 : decode me_M_endBoth.2.1 43 = .ok (.iaload, 1) := by decide +kernel
theorem d_M_endBoth_44 : decode me_M_endBoth.2.1 44 = .ok (.goto 9, 3) := by decide +kernel
theorem d_M_endBoth_47 : decode me_M_endBoth.2.1 47 = .ok (.aload_n 0, 1) := by decide +kernel
theorem d_M_endBoth_48 : decode me_M_endBoth.2.1 48 = .ok (.getfield 57, 3) := by decide +kernel
theorem d_M_endBoth_51 : decode me_M_endBoth.2.1 51 = .ok (.iload_n 1, 1) := by decide +kernel
theorem d_M_endBoth_52 : decode me_M_endBoth.2.1 52 = .ok (.iaload, 1) := by decide +kernel
theorem d_M_endBoth_53 : decode me_M_endBoth.2.1 53 = .ok (.iastore, 1) := by decide +kernel
theorem d_M_endBoth_54 : decode me_M_endBoth.2.1 54 = .ok (.aload_n 0, 1) := by decide +kernel
theorem d_M_endBoth_55 : decode me_M_endBoth.2.1 55 = .ok (.getfield 66, 3) := by decide +kernel
theorem d_M_endBoth_58 : decode me_M_endBoth.2.1 58 = .ok (.iload_n 1, 1) := by decide +kernel
theorem d_M_endBoth_59 : decode me_M_endBoth.2.1 59 = .ok (.iconst 1, 1) := by decide +kernel
theorem d_M_endBoth_60 : decode me_M_endBoth.2.1 60 = .ok (.bastore, 1) := by decide +kernel
theorem d_M_endBoth_61 : decode me_M_endBoth.2.1 61 = .ok (.aload_n 0, 1) := by decide +kernel
theorem d_M_endBoth_62 : decode me_M_endBoth.2.1 62 = .ok (.getfield 60, 3) := by decide +kernel
theorem d_M_endBoth_65 : decode me_M_endBoth.2.1 65 = .ok (.iload_n 1, 1) := by decide +kernel
theorem d_M_endBoth_66 : decode me_M_endBoth.2.1 66 = .ok (.iconst 0, 1) := by decide +kernel
theorem d_M_endBoth_67 : decode me_M_endBoth.2.1 67 = .ok (.bastore, 1) := by decide +kernel
theorem d_M_endBoth_68 : decode me_M_endBoth.2.1 68 = .ok (.return_, 1) := by decide +kernel
abbrev G_M_endBoth_0 (l : Launch) (v : gs_V) (n : Nat) (post : gs_S → Prop) (σ : gs_S) : Prop := gG l v lyM 33 me_M_endBoth n (qV v lyM 33 post) 0 [(0, .ref (v.2.2 0))] [] σ
abbrev G_M_endBoth_47 (l : Launch) (v : gs_V) (n : Nat) (post : gs_S → Prop) (σ : gs_S) (x1 : Int32) (s0 : Int32) : Prop := gG l v lyM 33 me_M_endBoth n (qV v lyM 33 post) 47 [(0, .ref (v.2.2 0)), (1, .int x1)] [.int s0, .ref (v.2.2 17)] σ
abbrev G_M_endBoth_53 (l : Launch) (v : gs_V) (n : Nat) (post : gs_S → Prop) (σ : gs_S) (x1 : Int32) (s0 : Int32) (s1 : Int32) : Prop := gG l v lyM 33 me_M_endBoth n (qV v lyM 33 post) 53 [(0, .ref (v.2.2 0)), (1, .int x1)] [.int s0, .int s1, .ref (v.2.2 17)] σ
set_option maxRecDepth 20000 in
set_option maxHeartbeats 1000000 in
theorem T_M_endBoth_0 {l : Launch} {v : gs_V} {n : Nat} {post : gs_S → Prop} {σ : gs_S} (h : gM l v lyM 33 me_M_endTest n [.ref (v.2.2 0)] σ (qV v lyM 33 (fun σ1 => vp_in (σ.1 0 13) 6 ∧ (((σ1.1 18 ((σ.1 0 13).toNatClampNeg)) = 0 → G_M_endBoth_47 l v n post σ1 (σ.1 0 13) (σ.1 0 13)) ∧ (¬ (σ1.1 18 ((σ.1 0 13).toNatClampNeg)) = 0 → vp_in (σ.1 0 13) 6 ∧ vp_in (σ.1 0 13) 6 ∧ (((σ1.1 17 ((σ.1 0 13).toNatClampNeg)) ≤ (σ1.1 15 ((σ.1 0 13).toNatClampNeg)) → G_M_endBoth_47 l v n post σ1 (σ.1 0 13) (σ.1 0 13)) ∧ (¬ (σ1.1 17 ((σ.1 0 13).toNatClampNeg)) ≤ (σ1.1 15 ((σ.1 0 13).toNatClampNeg)) → vp_in (σ.1 0 13) 6 ∧ G_M_endBoth_53 l v n post σ1 (σ.1 0 13) (σ1.1 17 ((σ.1 0 13).toNatClampNeg)) (σ.1 0 13)))))))) : G_M_endBoth_0 l v n post σ := by
  refine g_aload_n d_M_endBoth_0 0 rfl rfl ?_
  refine g_getV (x := .int (σ.1 0 13)) d_M_endBoth_1 fl_M_115 (by decide) rfl rfl rfl ?_
  refine g_istore_n (L' := [(1, .int (σ.1 0 13)), (0, .ref (v.2.2 0))]) d_M_endBoth_4 rfl (by decide) rfl ?_
  refine g_aload_n d_M_endBoth_5 1 rfl rfl ?_
  refine g_callVv (av := []) (rest := []) d_M_endBoth_6 Y_M_endTest lk_M_132 (by decide) rfl rfl I_M_endTest rfl (Nat.le_of_ble_eq_true rfl) rfl h (fun σ1 h => ?_)
  refine g_aload_n d_M_endBoth_9 1 rfl rfl ?_
  refine g_getV (x := .ref (v.2.2 17)) d_M_endBoth_10 fl_M_63 (by decide) rfl rfl rfl ?_
  refine g_iload_n d_M_endBoth_13 0 rfl rfl ?_
  refine g_aload_n d_M_endBoth_14 1 rfl rfl ?_
  refine g_getV (x := .ref (v.2.2 18)) d_M_endBoth_15 fl_M_66 (by decide) rfl rfl rfl ?_
  refine g_iload_n d_M_endBoth_18 0 rfl rfl ?_
  have hi2 := h.1
  have h := h.2
  refine g_zald (x := σ1.1 18 ((σ.1 0 13).toNatClampNeg)) d_M_endBoth_19 (by decide) rfl hi2 rfl ?_
  refine g_if_eq (tgt := 47) d_M_endBoth_20 rfl (fun hc => ?_) (fun hc => ?_)
  · have h := h.1 hc
    exact g_sub [1, 0] rfl h
  · have h := h.2 hc
    refine g_aload_n d_M_endBoth_23 1 rfl rfl ?_
    refine g_getV (x := .ref (v.2.2 17)) d_M_endBoth_24 fl_M_63 (by decide) rfl rfl rfl ?_
    refine g_iload_n d_M_endBoth_27 0 rfl rfl ?_
    have hi3 := h.1
    have h := h.2
    refine g_iald (x := σ1.1 17 ((σ.1 0 13).toNatClampNeg)) d_M_endBoth_28 (by decide) rfl hi3 rfl ?_
    refine g_aload_n d_M_endBoth_29 1 rfl rfl ?_
    refine g_getV (x := .ref (v.2.2 15)) d_M_endBoth_30 fl_M_57 (by decide) rfl rfl rfl ?_
    refine g_iload_n d_M_endBoth_33 0 rfl rfl ?_
    have hi4 := h.1
    have h := h.2
    refine g_iald (x := σ1.1 15 ((σ.1 0 13).toNatClampNeg)) d_M_endBoth_34 (by decide) rfl hi4 rfl ?_
    refine g_icmp_le (tgt := 47) d_M_endBoth_35 rfl (fun hc => ?_) (fun hc => ?_)
    · have h := h.1 hc
      exact g_sub [1, 0] rfl h
    · have h := h.2 hc
      refine g_aload_n d_M_endBoth_38 1 rfl rfl ?_
      refine g_getV (x := .ref (v.2.2 17)) d_M_endBoth_39 fl_M_63 (by decide) rfl rfl rfl ?_
      refine g_iload_n d_M_endBoth_42 0 rfl rfl ?_
      have hi5 := h.1
      have h := h.2
      refine g_iald (x := σ1.1 17 ((σ.1 0 13).toNatClampNeg)) d_M_endBoth_43 (by decide) rfl hi5 rfl ?_
      refine g_goto (tgt := 53) d_M_endBoth_44 rfl ?_
      exact g_sub [1, 0] rfl h
set_option maxRecDepth 20000 in
set_option maxHeartbeats 1000000 in
theorem T_M_endBoth_47 {l : Launch} {v : gs_V} {n : Nat} {post : gs_S → Prop} {σ : gs_S} {x1 : Int32} {s0 : Int32} (h : vp_in x1 6 ∧ G_M_endBoth_53 l v n post σ x1 (σ.1 15 x1.toNatClampNeg) s0) : G_M_endBoth_47 l v n post σ x1 s0 := by
  refine g_aload_n d_M_endBoth_47 0 rfl rfl ?_
  refine g_getV (x := .ref (v.2.2 15)) d_M_endBoth_48 fl_M_57 (by decide) rfl rfl rfl ?_
  refine g_iload_n d_M_endBoth_51 1 rfl rfl ?_
  have hi1 := h.1
  have h := h.2
  refine g_iald (x := σ.1 15 x1.toNatClampNeg) d_M_endBoth_52 (by decide) rfl hi1 rfl ?_
  exact h
set_option maxRecDepth 20000 in
set_option maxHeartbeats 1000000 in
theorem T_M_endBoth_53 {l : Launch} {v : gs_V} {n : Nat} {post : gs_S → Prop} {σ : gs_S} {x1 : Int32} {s0 : Int32} {s1 : Int32} (h : vp_in s1 6 ∧ vp_in x1 6 ∧ vp_in x1 6 ∧ post (gs_pI (gs_pI (gs_pI σ 17 s1.toNatClampNeg s0) 18 x1.toNatClampNeg 1) 16 x1.toNatClampNeg 0)) : G_M_endBoth_53 l v n post σ x1 s0 s1 := by
  have hi1 := h.1
  have h := h.2
  refine g_iast d_M_endBoth_53 (by decide) rfl hi1 ?_
  refine g_aload_n d_M_endBoth_54 0 rfl rfl ?_
  refine g_getV (x := .ref (v.2.2 18)) d_M_endBoth_55 fl_M_66 (by decide) rfl rfl rfl ?_
  refine g_iload_n d_M_endBoth_58 1 rfl rfl ?_
  refine g_iconst d_M_endBoth_59 (x := 1) (by decide) ?_
  have hi2 := h.1
  have h := h.2
  refine g_zast d_M_endBoth_60 (by decide) rfl hi2 ?_
  refine g_aload_n d_M_endBoth_61 0 rfl rfl ?_
  refine g_getV (x := .ref (v.2.2 16)) d_M_endBoth_62 fl_M_60 (by decide) rfl rfl rfl ?_
  refine g_iload_n d_M_endBoth_65 1 rfl rfl ?_
  refine g_iconst d_M_endBoth_66 (x := 0) (by decide) ?_
  have hi3 := h.1
  have h := h.2
  refine g_zast d_M_endBoth_67 (by decide) rfl hi3 ?_
  exact g_vret d_M_endBoth_68 rfl h
theorem E_M_endBoth {l : Launch} {v : gs_V} {n : Nat} {post : gs_S → Prop} {σ : gs_S} (h : G_M_endBoth_0 l v n post σ) : gM l v lyM 33 me_M_endBoth (n + 1) [.ref (v.2.2 0)] σ (qV v lyM 33 post) := gM_of (by decide +kernel) (Nat.le_of_ble_eq_true rfl) h
/-! LineRulesModel.endChoice -/
theorem d_M_endChoice_0 : decode me_M_endChoice.2.1 0 = .ok (.aload_n 0, 1) := by decide +kernel
theorem d_M_endChoice_1 : decode me_M_endChoice.2.1 1 = .ok (.invokevirtual 138, 3) := by decide +kernel
theorem d_M_endChoice_4 : decode me_M_endChoice.2.1 4 = .ok (.istore_n 1, 1) := by decide +kernel
theorem d_M_endChoice_5 : decode me_M_endChoice.2.1 5 = .ok (.aload_n 0, 1) := by decide +kernel
theorem d_M_endChoice_6 : decode me_M_endChoice.2.1 6 = .ok (.getfield 26, 3) := by decide +kernel
theorem d_M_endChoice_9 : decode me_M_endChoice.2.1 9 = .ok (.aload_n 0, 1) := by decide +kernel
theorem d_M_endChoice_10 : decode me_M_endChoice.2.1 10 = .ok (.getfield 115, 3) := by decide +kernel
theorem d_M_endChoice_13 : decode me_M_endChoice.2.1 13 = .ok (.iaload, 1) := by decide +kernel
theorem d_M_endChoice_14 : decode me_M_endChoice.2.1 14 = .ok (.iconst 3, 1) := by decide +kernel
theorem d_M_endChoice_15 : decode me_M_endChoice.2.1 15 = .ok (.if_icmp .ne 42, 3) := by decide +kernel
theorem d_M_endChoice_18 : decode me_M_endChoice.2.1 18 = .ok (.aload_n 0, 1) := by decide +kernel
theorem d_M_endChoice_19 : decode me_M_endChoice.2.1 19 = .ok (.getfield 29, 3) := by decide +kernel
theorem d_M_endChoice_22 : decode me_M_endChoice.2.1 22 = .ok (.aload_n 0, 1) := by decide +kernel
theorem d_M_endChoice_23 : decode me_M_endChoice.2.1 23 = .ok (.getfield 115, 3) := by decide +kernel
theorem d_M_endChoice_26 : decode me_M_endChoice.2.1 26 = .ok (.iaload, 1) := by decide +kernel
theorem d_M_endChoice_27 : decode me_M_endChoice.2.1 27 = .ok (.ifCond .eq 15, 3) := by decide +kernel
theorem d_M_endChoice_30 : decode me_M_endChoice.2.1 30 = .ok (.aload_n 0, 1) := by decide +kernel
theorem d_M_endChoice_31 : decode me_M_endChoice.2.1 31 = .ok (.getfield 32, 3) := by decide +kernel
theorem d_M_endChoice_34 : decode me_M_endChoice.2.1 34 = .ok (.aload_n 0, 1) := by decide +kernel
theorem d_M_endChoice_35 : decode me_M_endChoice.2.1 35 = .ok (.getfield 115, 3) := by decide +kernel
theorem d_M_endChoice_38 : decode me_M_endChoice.2.1 38 = .ok (.iaload, 1) := by decide +kernel
theorem d_M_endChoice_39 : decode me_M_endChoice.2.1 39 = .ok (.goto 4, 3) := by decide +kernel
theorem d_M_endChoice_42 : decode me_M_endChoice.2.1 42 = .ok (.iload_n 1, 1) := by decide +kernel
theorem d_M_endChoice_43 : decode me_M_endChoice.2.1 43 = .ok (.istore_n 1, 1) := by decide +kernel
theorem d_M_endChoice_44 : decode me_M_endChoice.2.1 44 = .ok (.aload_n 0, 1) := by decide +kernel
theorem d_M_endChoice_45 : decode me_M_endChoice.2.1 45 = .ok (.dup, 1) := by decide +kernel
theorem d_M_endChoice_46 : decode me_M_endChoice.2.1 46 = .ok (.getfield 115, 3) := by decide +kernel
theorem d_M_endChoice_49 : decode me_M_endChoice.2.1 49 = .ok (.iconst 1, 1) := by decide +kernel
theorem d_M_endChoice_50 : decode me_M_endChoice.2.1 50 = .ok (.isub, 1) := by decide +kernel
theorem d_M_endChoice_51 : decode me_M_endChoice.2.1 51 = .ok (.putfield 115, 3) := by decide +kernel
theorem d_M_endChoice_54 : decode me_M_endChoice.2.1 54 = .ok (.goto (-49), 3) := by decide +kernel
theorem d_M_endChoice_57 : decode me_M_endChoice.2.1 57 = .ok (.iload_n 1, 1) := by decide +kernel
theorem d_M_endChoice_58 : decode me_M_endChoice.2.1 58 = .ok (.ireturn, 1) := by decide +kernel
abbrev G_M_endChoice_0 (l : Launch) (v : gs_V) (n : Nat) (post : Int32 → gs_S → Prop) (σ : gs_S) : Prop := gG l v lyM 33 me_M_endChoice n (qI v lyM 33 post) 0 [(0, .ref (v.2.2 0))] [] σ
abbrev G_M_endChoice_5 (l : Launch) (v : gs_V) (n : Nat) (post : Int32 → gs_S → Prop) (σ : gs_S) (x1 : Int32) : Prop := gG l v lyM 33 me_M_endChoice n (qI v lyM 33 post) 5 [(0, .ref (v.2.2 0)), (1, .int x1)] [] σ
abbrev G_M_endChoice_43 (l : Launch) (v : gs_V) (n : Nat) (post : Int32 → gs_S → Prop) (σ : gs_S) (s0 : Int32) : Prop := gG l v lyM 33 me_M_endChoice n (qI v lyM 33 post) 43 [(0, .ref (v.2.2 0))] [.int s0] σ
set_option maxRecDepth 20000 in
set_option maxHeartbeats 1000000 in
theorem T_M_endChoice_0 {l : Launch} {v : gs_V} {n : Nat} {post : Int32 → gs_S → Prop} {σ : gs_S} (h : gM l v lyM 33 me_M_endEither n [.ref (v.2.2 0)] σ (qI v lyM 33 (fun r1 σ1 => G_M_endChoice_5 l v n post σ1 r1))) : G_M_endChoice_0 l v n post σ := by
  refine g_aload_n d_M_endChoice_0 0 rfl rfl ?_
  refine g_callVi (av := []) (rest := []) d_M_endChoice_1 Y_M_endEither lk_M_138 (by decide) rfl rfl I_M_endEither rfl (Nat.le_of_ble_eq_true rfl) rfl h (fun r1 σ1 h => ?_)
  refine g_istore_n (L' := [(1, .int r1), (0, .ref (v.2.2 0))]) d_M_endChoice_4 rfl (by decide) rfl ?_
  exact g_sub [1, 0] rfl h
set_option maxRecDepth 20000 in
set_option maxHeartbeats 1000000 in
theorem T_M_endChoice_5 {l : Launch} {v : gs_V} {n : Nat} {post : Int32 → gs_S → Prop} {σ : gs_S} {x1 : Int32} (h : vp_in (σ.1 0 13) 6 ∧ ((¬ (σ.1 5 ((σ.1 0 13).toNatClampNeg)) = 3 → post x1 σ) ∧ ((σ.1 5 ((σ.1 0 13).toNatClampNeg)) = 3 → vp_in (σ.1 0 13) 6 ∧ (((σ.1 6 ((σ.1 0 13).toNatClampNeg)) = 0 → G_M_endChoice_43 l v n post σ x1) ∧ (¬ (σ.1 6 ((σ.1 0 13).toNatClampNeg)) = 0 → vp_in (σ.1 0 13) 6 ∧ G_M_endChoice_43 l v n post σ (σ.1 7 ((σ.1 0 13).toNatClampNeg))))))) : G_M_endChoice_5 l v n post σ x1 := by
  refine g_aload_n d_M_endChoice_5 0 rfl rfl ?_
  refine g_getV (x := .ref (v.2.2 5)) d_M_endChoice_6 fl_M_26 (by decide) rfl rfl rfl ?_
  refine g_aload_n d_M_endChoice_9 0 rfl rfl ?_
  refine g_getV (x := .int (σ.1 0 13)) d_M_endChoice_10 fl_M_115 (by decide) rfl rfl rfl ?_
  have hi1 := h.1
  have h := h.2
  refine g_iald (x := σ.1 5 ((σ.1 0 13).toNatClampNeg)) d_M_endChoice_13 (by decide) rfl hi1 rfl ?_
  refine g_iconst d_M_endChoice_14 (x := 3) (by decide) ?_
  refine g_icmp_ne (tgt := 57) d_M_endChoice_15 rfl (fun hc => ?_) (fun hc => ?_)
  · have h := h.1 hc
    refine g_iload_n d_M_endChoice_57 1 rfl rfl ?_
    exact g_iret d_M_endChoice_58 rfl h
  · have h := h.2 hc
    refine g_aload_n d_M_endChoice_18 0 rfl rfl ?_
    refine g_getV (x := .ref (v.2.2 6)) d_M_endChoice_19 fl_M_29 (by decide) rfl rfl rfl ?_
    refine g_aload_n d_M_endChoice_22 0 rfl rfl ?_
    refine g_getV (x := .int (σ.1 0 13)) d_M_endChoice_23 fl_M_115 (by decide) rfl rfl rfl ?_
    have hi2 := h.1
    have h := h.2
    refine g_iald (x := σ.1 6 ((σ.1 0 13).toNatClampNeg)) d_M_endChoice_26 (by decide) rfl hi2 rfl ?_
    refine g_if_eq (tgt := 42) d_M_endChoice_27 rfl (fun hc => ?_) (fun hc => ?_)
    · have h := h.1 hc
      refine g_iload_n d_M_endChoice_42 1 rfl rfl ?_
      exact g_sub [0] rfl h
    · have h := h.2 hc
      refine g_aload_n d_M_endChoice_30 0 rfl rfl ?_
      refine g_getV (x := .ref (v.2.2 7)) d_M_endChoice_31 fl_M_32 (by decide) rfl rfl rfl ?_
      refine g_aload_n d_M_endChoice_34 0 rfl rfl ?_
      refine g_getV (x := .int (σ.1 0 13)) d_M_endChoice_35 fl_M_115 (by decide) rfl rfl rfl ?_
      have hi3 := h.1
      have h := h.2
      refine g_iald (x := σ.1 7 ((σ.1 0 13).toNatClampNeg)) d_M_endChoice_38 (by decide) rfl hi3 rfl ?_
      refine g_goto (tgt := 43) d_M_endChoice_39 rfl ?_
      exact g_sub [0] rfl h
set_option maxRecDepth 20000 in
set_option maxHeartbeats 1000000 in
theorem T_M_endChoice_43 {l : Launch} {v : gs_V} {n : Nat} {post : Int32 → gs_S → Prop} {σ : gs_S} {s0 : Int32} (h : G_M_endChoice_5 l v n post (gs_pI σ 0 13 ((σ.1 0 13) - 1)) s0) : G_M_endChoice_43 l v n post σ s0 := by
  refine g_istore_n (L' := [(1, .int s0), (0, .ref (v.2.2 0))]) d_M_endChoice_43 rfl (by decide) rfl ?_
  refine g_aload_n d_M_endChoice_44 1 rfl rfl ?_
  refine g_dup d_M_endChoice_45 rfl ?_
  refine g_getV (x := .int (σ.1 0 13)) d_M_endChoice_46 fl_M_115 (by decide) rfl rfl rfl ?_
  refine g_iconst d_M_endChoice_49 (x := 1) (by decide) ?_
  refine g_isub d_M_endChoice_50 ?_
  refine g_putI d_M_endChoice_51 fp_M_115 (by decide) rfl rfl ⟨rfl, rfl⟩ ?_
  refine g_goto (tgt := 5) d_M_endChoice_54 rfl ?_
  exact g_sub [1, 0] rfl h
theorem E_M_endChoice {l : Launch} {v : gs_V} {n : Nat} {post : Int32 → gs_S → Prop} {σ : gs_S} (h : G_M_endChoice_0 l v n post σ) : gM l v lyM 33 me_M_endChoice (n + 1) [.ref (v.2.2 0)] σ (qI v lyM 33 post) := gM_of (by decide +kernel) (Nat.le_of_ble_eq_true rfl) h
/-! LineRulesModel.endEither -/
theorem d_M_endEither_0 : decode me_M_endEither.2.1 0 = .ok (.aload_n 0, 1) := by decide +kernel
theorem d_M_endEither_1 : decode me_M_endEither.2.1 1 = .ok (.invokevirtual 135, 3) := by decide +kernel
theorem d_M_endEither_4 : decode me_M_endEither.2.1 4 = .ok (.aload_n 0, 1) := by decide +kernel
theorem d_M_endEither_5 : decode me_M_endEither.2.1 5 = .ok (.getfield 66, 3) := by decide +kernel
theorem d_M_endEither_8 : decode me_M_endEither.2.1 8 = .ok (.aload_n 0, 1) := by decide +kernel
theorem d_M_endEither_9 : decode me_M_endEither.2.1 9 = .ok (.getfield 115, 3) := by decide +kernel
theorem d_M_endEither_12 : decode me_M_endEither.2.1 12 = .ok (.iconst 0, 1) := by decide +kernel
theorem d_M_endEither_13 : decode me_M_endEither.2.1 13 = .ok (.bastore, 1) := by decide +kernel
theorem d_M_endEither_14 : decode me_M_endEither.2.1 14 = .ok (.aload_n 0, 1) := by decide +kernel
theorem d_M_endEither_15 : decode me_M_endEither.2.1 15 = .ok (.getfield 63, 3) := by decide +kernel
theorem d_M_endEither_18 : decode me_M_endEither.2.1 18 = .ok (.aload_n 0, 1) := by decide +kernel
theorem d_M_endEither_19 : decode me_M_endEither.2.1 19 = .ok (.getfield 115, 3) := by decide +kernel
theorem d_M_endEither_22 : decode me_M_endEither.2.1 22 = .ok (.iaload, 1) := by decide +kernel
theorem d_M_endEither_23 : decode me_M_endEither.2.1 23 = .ok (.ireturn, 1) := by decide +kernel
abbrev G_M_endEither_0 (l : Launch) (v : gs_V) (n : Nat) (post : Int32 → gs_S → Prop) (σ : gs_S) : Prop := gG l v lyM 33 me_M_endEither n (qI v lyM 33 post) 0 [(0, .ref (v.2.2 0))] [] σ
set_option maxRecDepth 20000 in
set_option maxHeartbeats 1000000 in
theorem T_M_endEither_0 {l : Launch} {v : gs_V} {n : Nat} {post : Int32 → gs_S → Prop} {σ : gs_S} (h : gM l v lyM 33 me_M_endBoth n [.ref (v.2.2 0)] σ (qV v lyM 33 (fun σ1 => vp_in (σ1.1 0 13) 6 ∧ vp_in (σ1.1 0 13) 6 ∧ post (σ1.1 17 ((σ1.1 0 13).toNatClampNeg)) (gs_pI σ1 18 ((σ1.1 0 13).toNatClampNeg) 0)))) : G_M_endEither_0 l v n post σ := by
  refine g_aload_n d_M_endEither_0 0 rfl rfl ?_
  refine g_callVv (av := []) (rest := []) d_M_endEither_1 Y_M_endBoth lk_M_135 (by decide) rfl rfl I_M_endBoth rfl (Nat.le_of_ble_eq_true rfl) rfl h (fun σ1 h => ?_)
  refine g_aload_n d_M_endEither_4 0 rfl rfl ?_
  refine g_getV (x := .ref (v.2.2 18)) d_M_endEither_5 fl_M_66 (by decide) rfl rfl rfl ?_
  refine g_aload_n d_M_endEither_8 0 rfl rfl ?_
  refine g_getV (x := .int (σ1.1 0 13)) d_M_endEither_9 fl_M_115 (by decide) rfl rfl rfl ?_
  refine g_iconst d_M_endEither_12 (x := 0) (by decide) ?_
  have hi2 := h.1
  have h := h.2
  refine g_zast d_M_endEither_13 (by decide) rfl hi2 ?_
  refine g_aload_n d_M_endEither_14 0 rfl rfl ?_
  refine g_getV (x := .ref (v.2.2 17)) d_M_endEither_15 fl_M_63 (by decide) rfl rfl rfl ?_
  refine g_aload_n d_M_endEither_18 0 rfl rfl ?_
  refine g_getV (x := .int (σ1.1 0 13)) d_M_endEither_19 fl_M_115 (by decide) rfl rfl rfl ?_
  have hi3 := h.1
  have h := h.2
  refine g_iald (x := σ1.1 17 ((σ1.1 0 13).toNatClampNeg)) d_M_endEither_22 (by decide) rfl hi3 rfl ?_
  exact g_iret d_M_endEither_23 rfl h
theorem E_M_endEither {l : Launch} {v : gs_V} {n : Nat} {post : Int32 → gs_S → Prop} {σ : gs_S} (h : G_M_endEither_0 l v n post σ) : gM l v lyM 33 me_M_endEither (n + 1) [.ref (v.2.2 0)] σ (qI v lyM 33 post) := gM_of (by decide +kernel) (Nat.le_of_ble_eq_true rfl) h
/-! LineRulesModel.endProduct -/
theorem d_M_endProduct_0 : decode me_M_endProduct.2.1 0 = .ok (.aload_n 0, 1) := by decide +kernel
theorem d_M_endProduct_1 : decode me_M_endProduct.2.1 1 = .ok (.getfield 115, 3) := by decide +kernel
theorem d_M_endProduct_4 : decode me_M_endProduct.2.1 4 = .ok (.istore_n 1, 1) := by decide +kernel
theorem d_M_endProduct_5 : decode me_M_endProduct.2.1 5 = .ok (.aload_n 0, 1) := by decide +kernel
theorem d_M_endProduct_6 : decode me_M_endProduct.2.1 6 = .ok (.getfield 38, 3) := by decide +kernel
theorem d_M_endProduct_9 : decode me_M_endProduct.2.1 9 = .ok (.iload_n 1, 1) := by decide +kernel
theorem d_M_endProduct_10 : decode me_M_endProduct.2.1 10 = .ok (.iaload, 1) := by decide +kernel
theorem d_M_endProduct_11 : decode me_M_endProduct.2.1 11 = .ok (.istore_n 2, 1) := by decide +kernel
theorem d_M_endProduct_12 : decode me_M_endProduct.2.1 12 = .ok (.aload_n 0, 1) := by decide +kernel
theorem d_M_endProduct_13 : decode me_M_endProduct.2.1 13 = .ok (.getfield 45, 3) := by decide +kernel
theorem d_M_endProduct_16 : decode me_M_endProduct.2.1 16 = .ok (.iload_n 1, 1) := by decide +kernel
theorem d_M_endProduct_17 : decode me_M_endProduct.2.1 17 = .ok (.aload_n 0, 1) := by decide +kernel
theorem d_M_endProduct_18 : decode me_M_endProduct.2.1 18 = .ok (.getfield 48, 3) := by decide +kernel
theorem d_M_endProduct_21 : decode me_M_endProduct.2.1 21 = .ok (.iload_n 1, 1) := by decide +kernel
theorem d_M_endProduct_22 : decode me_M_endProduct.2.1 22 = .ok (.iaload, 1) := by decide +kernel
theorem d_M_endProduct_23 : decode me_M_endProduct.2.1 23 = .ok (.ifCond .ne 7, 3) := by decide +kernel
theorem d_M_endProduct_26 : decode me_M_endProduct.2.1 26 = .ok (.iload_n 2, 1) := by decide +kernel
theorem d_M_endProduct_27 : decode me_M_endProduct.2.1 27 = .ok (.goto 47, 3) := by decide +kernel
theorem d_M_endProduct_30 : decode me_M_endProduct.2.1 30 = .ok (.aload_n 0, 1) := by decide +kernel
theorem d_M_endProduct_31 : decode me_M_endProduct.2.1 31 = .ok (.getfield 48, 3) := by decide +kernel
theorem d_M_endProduct_34 : decode me_M_endProduct.2.1 34 = .ok (.iload_n 1, 1) := by decide +kernel
theorem d_M_endProduct_35 : decode me_M_endProduct.2.1 35 = .ok (.iaload, 1) := by decide +kernel
theorem d_M_endProduct_36 : decode me_M_endProduct.2.1 36 = .ok (.iconst 1, 1) := by decide +kernel
theorem d_M_endProduct_37 : decode me_M_endProduct.2.1 37 = .ok (.if_icmp .ne 19, 3) := by decide +kernel
theorem d_M_endProduct_40 : decode me_M_endProduct.2.1 40 = .ok (.aload_n 0, 1) := by decide +kernel
theorem d_M_endProduct_41 : decode me_M_endProduct.2.1 41 = .ok (.getfield 45, 3) := by decide +kernel
theorem d_M_endProduct_44 : decode me_M_endProduct.2.1 44 = .ok (.iload_n 1, 1) := by decide +kernel
theorem d_M_endProduct_45 : decode me_M_endProduct.2.1 45 = .ok (.iaload, 1) := by decide +kernel
theorem d_M_endProduct_46 : decode me_M_endProduct.2.1 46 = .ok (.iload_n 2, 1) := by decide +kernel
theorem d_M_endProduct_47 : decode me_M_endProduct.2.1 47 = .ok (.iadd, 1) := by decide +kernel
theorem d_M_endProduct_48 : decode me_M_endProduct.2.1 48 = .ok (.aload_n 0, 1) := by decide +kernel
theorem d_M_endProduct_49 : decode me_M_endProduct.2.1 49 = .ok (.getfield 122, 3) := by decide +kernel
theorem d_M_endProduct_52 : decode me_M_endProduct.2.1 52 = .ok (.irem, 1) := by decide +kernel
theorem d_M_endProduct_53 : decode me_M_endProduct.2.1 53 = .ok (.goto 21, 3) := by decide +kernel
theorem d_M_endProduct_56 : decode me_M_endProduct.2.1 56 = .ok (.aload_n 0, 1) := by decide +kernel
theorem d_M_endProduct_57 : decode me_M_endProduct.2.1 57 = .ok (.getfield 45, 3) := by decide +kernel
theorem d_M_endProduct_60 : decode me_M_endProduct.2.1 60 = .ok (.iload_n 1, 1) := by decide +kernel
theorem d_M_endProduct_61 : decode me_M_endProduct.2.1 61 = .ok (.iaload, 1) := by decide +kernel
theorem d_M_endProduct_62 : decode me_M_endProduct.2.1 62 = .ok (.aload_n 0, 1) := by decide +kernel
theorem d_M_endProduct_63 : decode me_M_endProduct.2.1 63 = .ok (.getfield 122, 3) := by decide +kernel
theorem d_M_endProduct_66 : decode me_M_endProduct.2.1 66 = .ok (.iadd, 1) := by decide +kernel
theorem d_M_endProduct_67 : decode me_M_endProduct.2.1 67 = .ok (.iload_n 2, 1) := by decide +kernel
theorem d_M_endProduct_68 : decode me_M_endProduct.2.1 68 = .ok (.isub, 1) := by decide +kernel
theorem d_M_endProduct_69 : decode me_M_endProduct.2.1 69 = .ok (.aload_n 0, 1) := by decide +kernel
theorem d_M_endProduct_70 : decode me_M_endProduct.2.1 70 = .ok (.getfield 122, 3) := by decide +kernel
theorem d_M_endProduct_73 : decode me_M_endProduct.2.1 73 = .ok (.irem, 1) := by decide +kernel
theorem d_M_endProduct_74 : decode me_M_endProduct.2.1 74 = .ok (.iastore, 1) := by decide +kernel
theorem d_M_endProduct_75 : decode me_M_endProduct.2.1 75 = .ok (.aload_n 0, 1) := by decide +kernel
theorem d_M_endProduct_76 : decode me_M_endProduct.2.1 76 = .ok (.getfield 41, 3) := by decide +kernel
theorem d_M_endProduct_79 : decode me_M_endProduct.2.1 79 = .ok (.iload_n 1, 1) := by decide +kernel
theorem d_M_endProduct_80 : decode me_M_endProduct.2.1 80 = .ok (.iconst 0, 1) := by decide +kernel
theorem d_M_endProduct_81 : decode me_M_endProduct.2.1 81 = .ok (.bastore, 1) := by decide +kernel
theorem d_M_endProduct_82 : decode me_M_endProduct.2.1 82 = .ok (.return_, 1) := by decide +kernel
abbrev G_M_endProduct_0 (l : Launch) (v : gs_V) (n : Nat) (post : gs_S → Prop) (σ : gs_S) : Prop := gG l v lyM 33 me_M_endProduct n (qV v lyM 33 post) 0 [(0, .ref (v.2.2 0))] [] σ
abbrev G_M_endProduct_74 (l : Launch) (v : gs_V) (n : Nat) (post : gs_S → Prop) (σ : gs_S) (x1 : Int32) (s0 : Int32) (s1 : Int32) : Prop := gG l v lyM 33 me_M_endProduct n (qV v lyM 33 post) 74 [(0, .ref (v.2.2 0)), (1, .int x1)] [.int s0, .int s1, .ref (v.2.2 11)] σ
set_option maxRecDepth 20000 in
set_option maxHeartbeats 1000000 in
theorem T_M_endProduct_0 {l : Launch} {v : gs_V} {n : Nat} {post : gs_S → Prop} {σ : gs_S} (h : vp_in (σ.1 0 13) 6 ∧ vp_in (σ.1 0 13) 6 ∧ ((¬ (σ.1 12 ((σ.1 0 13).toNatClampNeg)) = 0 → vp_in (σ.1 0 13) 6 ∧ ((¬ (σ.1 12 ((σ.1 0 13).toNatClampNeg)) = 1 → vp_in (σ.1 0 13) 6 ∧ ¬ (σ.1 0 10) = 0 ∧ G_M_endProduct_74 l v n post σ (σ.1 0 13) (jR (((σ.1 11 ((σ.1 0 13).toNatClampNeg)) + (σ.1 0 10)) - (σ.1 9 ((σ.1 0 13).toNatClampNeg))) (σ.1 0 10)) (σ.1 0 13)) ∧ ((σ.1 12 ((σ.1 0 13).toNatClampNeg)) = 1 → vp_in (σ.1 0 13) 6 ∧ ¬ (σ.1 0 10) = 0 ∧ G_M_endProduct_74 l v n post σ (σ.1 0 13) (jR ((σ.1 11 ((σ.1 0 13).toNatClampNeg)) + (σ.1 9 ((σ.1 0 13).toNatClampNeg))) (σ.1 0 10)) (σ.1 0 13)))) ∧ ((σ.1 12 ((σ.1 0 13).toNatClampNeg)) = 0 → G_M_endProduct_74 l v n post σ (σ.1 0 13) (σ.1 9 ((σ.1 0 13).toNatClampNeg)) (σ.1 0 13)))) : G_M_endProduct_0 l v n post σ := by
  refine g_aload_n d_M_endProduct_0 0 rfl rfl ?_
  refine g_getV (x := .int (σ.1 0 13)) d_M_endProduct_1 fl_M_115 (by decide) rfl rfl rfl ?_
  refine g_istore_n (L' := [(1, .int (σ.1 0 13)), (0, .ref (v.2.2 0))]) d_M_endProduct_4 rfl (by decide) rfl ?_
  refine g_aload_n d_M_endProduct_5 1 rfl rfl ?_
  refine g_getV (x := .ref (v.2.2 9)) d_M_endProduct_6 fl_M_38 (by decide) rfl rfl rfl ?_
  refine g_iload_n d_M_endProduct_9 0 rfl rfl ?_
  have hi1 := h.1
  have h := h.2
  refine g_iald (x := σ.1 9 ((σ.1 0 13).toNatClampNeg)) d_M_endProduct_10 (by decide) rfl hi1 rfl ?_
  refine g_istore_n (L' := [(2, .int (σ.1 9 ((σ.1 0 13).toNatClampNeg))), (1, .int (σ.1 0 13)), (0, .ref (v.2.2 0))]) d_M_endProduct_11 rfl (by decide) rfl ?_
  refine g_aload_n d_M_endProduct_12 2 rfl rfl ?_
  refine g_getV (x := .ref (v.2.2 11)) d_M_endProduct_13 fl_M_45 (by decide) rfl rfl rfl ?_
  refine g_iload_n d_M_endProduct_16 1 rfl rfl ?_
  refine g_aload_n d_M_endProduct_17 2 rfl rfl ?_
  refine g_getV (x := .ref (v.2.2 12)) d_M_endProduct_18 fl_M_48 (by decide) rfl rfl rfl ?_
  refine g_iload_n d_M_endProduct_21 1 rfl rfl ?_
  have hi2 := h.1
  have h := h.2
  refine g_iald (x := σ.1 12 ((σ.1 0 13).toNatClampNeg)) d_M_endProduct_22 (by decide) rfl hi2 rfl ?_
  refine g_if_ne (tgt := 30) d_M_endProduct_23 rfl (fun hc => ?_) (fun hc => ?_)
  · have h := h.1 hc
    refine g_aload_n d_M_endProduct_30 2 rfl rfl ?_
    refine g_getV (x := .ref (v.2.2 12)) d_M_endProduct_31 fl_M_48 (by decide) rfl rfl rfl ?_
    refine g_iload_n d_M_endProduct_34 1 rfl rfl ?_
    have hi3 := h.1
    have h := h.2
    refine g_iald (x := σ.1 12 ((σ.1 0 13).toNatClampNeg)) d_M_endProduct_35 (by decide) rfl hi3 rfl ?_
    refine g_iconst d_M_endProduct_36 (x := 1) (by decide) ?_
    refine g_icmp_ne (tgt := 56) d_M_endProduct_37 rfl (fun hc => ?_) (fun hc => ?_)
    · have h := h.1 hc
      refine g_aload_n d_M_endProduct_56 2 rfl rfl ?_
      refine g_getV (x := .ref (v.2.2 11)) d_M_endProduct_57 fl_M_45 (by decide) rfl rfl rfl ?_
      refine g_iload_n d_M_endProduct_60 1 rfl rfl ?_
      have hi4 := h.1
      have h := h.2
      refine g_iald (x := σ.1 11 ((σ.1 0 13).toNatClampNeg)) d_M_endProduct_61 (by decide) rfl hi4 rfl ?_
      refine g_aload_n d_M_endProduct_62 2 rfl rfl ?_
      refine g_getV (x := .int (σ.1 0 10)) d_M_endProduct_63 fl_M_122 (by decide) rfl rfl rfl ?_
      refine g_iadd d_M_endProduct_66 ?_
      refine g_iload_n d_M_endProduct_67 0 rfl rfl ?_
      refine g_isub d_M_endProduct_68 ?_
      refine g_aload_n d_M_endProduct_69 2 rfl rfl ?_
      refine g_getV (x := .int (σ.1 0 10)) d_M_endProduct_70 fl_M_122 (by decide) rfl rfl rfl ?_
      refine g_irem d_M_endProduct_73 h.1 ?_
      have h := h.2
      exact g_sub [2, 1] rfl h
    · have h := h.2 hc
      refine g_aload_n d_M_endProduct_40 2 rfl rfl ?_
      refine g_getV (x := .ref (v.2.2 11)) d_M_endProduct_41 fl_M_45 (by decide) rfl rfl rfl ?_
      refine g_iload_n d_M_endProduct_44 1 rfl rfl ?_
      have hi5 := h.1
      have h := h.2
      refine g_iald (x := σ.1 11 ((σ.1 0 13).toNatClampNeg)) d_M_endProduct_45 (by decide) rfl hi5 rfl ?_
      refine g_iload_n d_M_endProduct_46 0 rfl rfl ?_
      refine g_iadd d_M_endProduct_47 ?_
      refine g_aload_n d_M_endProduct_48 2 rfl rfl ?_
      refine g_getV (x := .int (σ.1 0 10)) d_M_endProduct_49 fl_M_122 (by decide) rfl rfl rfl ?_
      refine g_irem d_M_endProduct_52 h.1 ?_
      have h := h.2
      refine g_goto (tgt := 74) d_M_endProduct_53 rfl ?_
      exact g_sub [2, 1] rfl h
  · have h := h.2 hc
    refine g_iload_n d_M_endProduct_26 0 rfl rfl ?_
    refine g_goto (tgt := 74) d_M_endProduct_27 rfl ?_
    exact g_sub [2, 1] rfl h
set_option maxRecDepth 20000 in
set_option maxHeartbeats 1000000 in
theorem T_M_endProduct_74 {l : Launch} {v : gs_V} {n : Nat} {post : gs_S → Prop} {σ : gs_S} {x1 : Int32} {s0 : Int32} {s1 : Int32} (h : vp_in s1 6 ∧ vp_in x1 6 ∧ post (gs_pI (gs_pI σ 11 s1.toNatClampNeg s0) 10 x1.toNatClampNeg 0)) : G_M_endProduct_74 l v n post σ x1 s0 s1 := by
  have hi1 := h.1
  have h := h.2
  refine g_iast d_M_endProduct_74 (by decide) rfl hi1 ?_
  refine g_aload_n d_M_endProduct_75 0 rfl rfl ?_
  refine g_getV (x := .ref (v.2.2 10)) d_M_endProduct_76 fl_M_41 (by decide) rfl rfl rfl ?_
  refine g_iload_n d_M_endProduct_79 1 rfl rfl ?_
  refine g_iconst d_M_endProduct_80 (x := 0) (by decide) ?_
  have hi2 := h.1
  have h := h.2
  refine g_zast d_M_endProduct_81 (by decide) rfl hi2 ?_
  exact g_vret d_M_endProduct_82 rfl h
theorem E_M_endProduct {l : Launch} {v : gs_V} {n : Nat} {post : gs_S → Prop} {σ : gs_S} (h : G_M_endProduct_0 l v n post σ) : gM l v lyM 33 me_M_endProduct (n + 1) [.ref (v.2.2 0)] σ (qV v lyM 33 post) := gM_of (by decide +kernel) (Nat.le_of_ble_eq_true rfl) h
/-! LineRulesModel.endSum -/
theorem d_M_endSum_0 : decode me_M_endSum.2.1 0 = .ok (.aload_n 0, 1) := by decide +kernel
theorem d_M_endSum_1 : decode me_M_endSum.2.1 1 = .ok (.invokevirtual 125, 3) := by decide +kernel
theorem d_M_endSum_4 : decode me_M_endSum.2.1 4 = .ok (.aload_n 0, 1) := by decide +kernel
theorem d_M_endSum_5 : decode me_M_endSum.2.1 5 = .ok (.getfield 48, 3) := by decide +kernel
theorem d_M_endSum_8 : decode me_M_endSum.2.1 8 = .ok (.aload_n 0, 1) := by decide +kernel
theorem d_M_endSum_9 : decode me_M_endSum.2.1 9 = .ok (.getfield 115, 3) := by decide +kernel
theorem d_M_endSum_12 : decode me_M_endSum.2.1 12 = .ok (.iconst 0, 1) := by decide +kernel
theorem d_M_endSum_13 : decode me_M_endSum.2.1 13 = .ok (.iastore, 1) := by decide +kernel
theorem d_M_endSum_14 : decode me_M_endSum.2.1 14 = .ok (.aload_n 0, 1) := by decide +kernel
theorem d_M_endSum_15 : decode me_M_endSum.2.1 15 = .ok (.getfield 45, 3) := by decide +kernel
theorem d_M_endSum_18 : decode me_M_endSum.2.1 18 = .ok (.aload_n 0, 1) := by decide +kernel
theorem d_M_endSum_19 : decode me_M_endSum.2.1 19 = .ok (.getfield 115, 3) := by decide +kernel
theorem d_M_endSum_22 : decode me_M_endSum.2.1 22 = .ok (.iaload, 1) := by decide +kernel
theorem d_M_endSum_23 : decode me_M_endSum.2.1 23 = .ok (.ireturn, 1) := by decide +kernel
abbrev G_M_endSum_0 (l : Launch) (v : gs_V) (n : Nat) (post : Int32 → gs_S → Prop) (σ : gs_S) : Prop := gG l v lyM 33 me_M_endSum n (qI v lyM 33 post) 0 [(0, .ref (v.2.2 0))] [] σ
set_option maxRecDepth 20000 in
set_option maxHeartbeats 1000000 in
theorem T_M_endSum_0 {l : Launch} {v : gs_V} {n : Nat} {post : Int32 → gs_S → Prop} {σ : gs_S} (h : gM l v lyM 33 me_M_endProduct n [.ref (v.2.2 0)] σ (qV v lyM 33 (fun σ1 => vp_in (σ1.1 0 13) 6 ∧ vp_in (σ1.1 0 13) 6 ∧ post (σ1.1 11 ((σ1.1 0 13).toNatClampNeg)) (gs_pI σ1 12 ((σ1.1 0 13).toNatClampNeg) 0)))) : G_M_endSum_0 l v n post σ := by
  refine g_aload_n d_M_endSum_0 0 rfl rfl ?_
  refine g_callVv (av := []) (rest := []) d_M_endSum_1 Y_M_endProduct lk_M_125 (by decide) rfl rfl I_M_endProduct rfl (Nat.le_of_ble_eq_true rfl) rfl h (fun σ1 h => ?_)
  refine g_aload_n d_M_endSum_4 0 rfl rfl ?_
  refine g_getV (x := .ref (v.2.2 12)) d_M_endSum_5 fl_M_48 (by decide) rfl rfl rfl ?_
  refine g_aload_n d_M_endSum_8 0 rfl rfl ?_
  refine g_getV (x := .int (σ1.1 0 13)) d_M_endSum_9 fl_M_115 (by decide) rfl rfl rfl ?_
  refine g_iconst d_M_endSum_12 (x := 0) (by decide) ?_
  have hi2 := h.1
  have h := h.2
  refine g_iast d_M_endSum_13 (by decide) rfl hi2 ?_
  refine g_aload_n d_M_endSum_14 0 rfl rfl ?_
  refine g_getV (x := .ref (v.2.2 11)) d_M_endSum_15 fl_M_45 (by decide) rfl rfl rfl ?_
  refine g_aload_n d_M_endSum_18 0 rfl rfl ?_
  refine g_getV (x := .int (σ1.1 0 13)) d_M_endSum_19 fl_M_115 (by decide) rfl rfl rfl ?_
  have hi3 := h.1
  have h := h.2
  refine g_iald (x := σ1.1 11 ((σ1.1 0 13).toNatClampNeg)) d_M_endSum_22 (by decide) rfl hi3 rfl ?_
  exact g_iret d_M_endSum_23 rfl h
theorem E_M_endSum {l : Launch} {v : gs_V} {n : Nat} {post : Int32 → gs_S → Prop} {σ : gs_S} (h : G_M_endSum_0 l v n post σ) : gM l v lyM 33 me_M_endSum (n + 1) [.ref (v.2.2 0)] σ (qI v lyM 33 post) := gM_of (by decide +kernel) (Nat.le_of_ble_eq_true rfl) h
/-! LineRulesModel.endTest -/
theorem d_M_endTest_0 : decode me_M_endTest.2.1 0 = .ok (.aload_n 0, 1) := by decide +kernel
theorem d_M_endTest_1 : decode me_M_endTest.2.1 1 = .ok (.getfield 115, 3) := by decide +kernel
theorem d_M_endTest_4 : decode me_M_endTest.2.1 4 = .ok (.istore_n 1, 1) := by decide +kernel
theorem d_M_endTest_5 : decode me_M_endTest.2.1 5 = .ok (.aload_n 0, 1) := by decide +kernel
theorem d_M_endTest_6 : decode me_M_endTest.2.1 6 = .ok (.invokevirtual 128, 3) := by decide +kernel
theorem d_M_endTest_9 : decode me_M_endTest.2.1 9 = .ok (.istore_n 2, 1) := by decide +kernel
theorem d_M_endTest_10 : decode me_M_endTest.2.1 10 = .ok (.aload_n 0, 1) := by decide +kernel
theorem d_M_endTest_11 : decode me_M_endTest.2.1 11 = .ok (.getfield 54, 3) := by decide +kernel
theorem d_M_endTest_14 : decode me_M_endTest.2.1 14 = .ok (.iload_n 1, 1) := by decide +kernel
theorem d_M_endTest_15 : decode me_M_endTest.2.1 15 = .ok (.iaload, 1) := by decide +kernel
theorem d_M_endTest_16 : decode me_M_endTest.2.1 16 = .ok (.ifCond .ne 7, 3) := by decide +kernel
theorem d_M_endTest_19 : decode me_M_endTest.2.1 19 = .ok (.iload_n 2, 1) := by decide +kernel
theorem d_M_endTest_20 : decode me_M_endTest.2.1 20 = .ok (.goto 46, 3) := by decide +kernel
theorem d_M_endTest_23 : decode me_M_endTest.2.1 23 = .ok (.aload_n 0, 1) := by decide +kernel
theorem d_M_endTest_24 : decode me_M_endTest.2.1 24 = .ok (.getfield 54, 3) := by decide +kernel
theorem d_M_endTest_27 : decode me_M_endTest.2.1 27 = .ok (.iload_n 1, 1) := by decide +kernel
theorem d_M_endTest_28 : decode me_M_endTest.2.1 28 = .ok (.iaload, 1) := by decide +kernel
theorem d_M_endTest_29 : decode me_M_endTest.2.1 29 = .ok (.iconst 1, 1) := by decide +kernel
theorem d_M_endTest_30 : decode me_M_endTest.2.1 30 = .ok (.if_icmp .ne 21, 3) := by decide +kernel
theorem d_M_endTest_33 : decode me_M_endTest.2.1 33 = .ok (.aload_n 0, 1) := by decide +kernel
theorem d_M_endTest_34 : decode me_M_endTest.2.1 34 = .ok (.getfield 51, 3) := by decide +kernel
theorem d_M_endTest_37 : decode me_M_endTest.2.1 37 = .ok (.iload_n 1, 1) := by decide +kernel
theorem d_M_endTest_38 : decode me_M_endTest.2.1 38 = .ok (.iaload, 1) := by decide +kernel
theorem d_M_endTest_39 : decode me_M_endTest.2.1 39 = .ok (.iload_n 2, 1) := by decide +kernel
theorem d_M_endTest_40 : decode me_M_endTest.2.1 40 = .ok (.if_icmp .ne 7, 3) := by decide +kernel
theorem d_M_endTest_43 : decode me_M_endTest.2.1 43 = .ok (.iconst 1, 1) := by decide +kernel
theorem d_M_endTest_44 : decode me_M_endTest.2.1 44 = .ok (.goto 22, 3) := by decide +kernel
theorem d_M_endTest_47 : decode me_M_endTest.2.1 47 = .ok (.iconst 0, 1) := by decide +kernel
theorem d_M_endTest_48 : decode me_M_endTest.2.1 48 = .ok (.goto 18, 3) := by decide +kernel
theorem d_M_endTest_51 : decode me_M_endTest.2.1 51 = .ok (.aload_n 0, 1) := by decide +kernel
theorem d_M_endTest_52 : decode me_M_endTest.2.1 52 = .ok (.getfield 51, 3) := by decide +kernel
theorem d_M_endTest_55 : decode me_M_endTest.2.1 55 = .ok (.iload_n 1, 1) := by decide +kernel
theorem d_M_endTest_56 : decode me_M_endTest.2.1 56 = .ok (.iaload, 1) := by decide +kernel
theorem d_M_endTest_57 : decode me_M_endTest.2.1 57 = .ok (.iload_n 2, 1) := by decide +kernel
theorem d_M_endTest_58 : decode me_M_endTest.2.1 58 = .ok (.if_icmp .ge 7, 3) := by decide +kernel
theorem d_M_endTest_61 : decode me_M_endTest.2.1 61 = .ok (.iconst 1, 1) := by decide +kernel
theorem d_M_endTest_62 : decode me_M_endTest.2.1 62 = .ok (.goto 4, 3) := by decide +kernel
theorem d_M_endTest_65 : decode me_M_endTest.2.1 65 = .ok (.iconst 0, 1) := by decide +kernel
theorem d_M_endTest_66 : decode me_M_endTest.2.1 66 = .ok (.istore_n 2, 1) := by decide +kernel
theorem d_M_endTest_67 : decode me_M_endTest.2.1 67 = .ok (.aload_n 0, 1) := by decide +kernel
theorem d_M_endTest_68 : decode me_M_endTest.2.1 68 = .ok (.getfield 54, 3) := by decide +kernel
theorem d_M_endTest_71 : decode me_M_endTest.2.1 71 = .ok (.iload_n 1, 1) := by decide +kernel
theorem d_M_endTest_72 : decode me_M_endTest.2.1 72 = .ok (.iconst 0, 1) := by decide +kernel
theorem d_M_endTest_73 : decode me_M_endTest.2.1 73 = .ok (.iastore, 1) := by decide +kernel
theorem d_M_endTest_74 : decode me_M_endTest.2.1 74 = .ok (.aload_n 0, 1) := by decide +kernel
theorem d_M_endTest_75 : decode me_M_endTest.2.1 75 = .ok (.getfield 57, 3) := by decide +kernel
theorem d_M_endTest_78 : decode me_M_endTest.2.1 78 = .ok (.iload_n 1, 1) := by decide +kernel
theorem d_M_endTest_79 : decode me_M_endTest.2.1 79 = .ok (.aload_n 0, 1) := by decide +kernel
theorem d_M_endTest_80 : decode me_M_endTest.2.1 80 = .ok (.getfield 60, 3) := by decide +kernel
theorem d_M_endTest_83 : decode me_M_endTest.2.1 83 = .ok (.iload_n 1, 1) := by decide +kernel
theorem d_M_endTest_84 : decode me_M_endTest.2.1 84 = .ok (.baload, 1) := by decide +kernel
theorem d_M_endTest_85 : decode me_M_endTest.2.1 85 = .ok (.ifCond .eq 22, 3) := by decide +kernel
theorem d_M_endTest_88 : decode me_M_endTest.2.1 88 = .ok (.aload_n 0, 1) := by decide +kernel
theorem d_M_endTest_89 : decode me_M_endTest.2.1 89 = .ok (.getfield 57, 3) := by decide +kernel
theorem d_M_endTest_92 : decode me_M_endTest.2.1 92 = .ok (.iload_n 1, 1) := by decide +kernel
theorem d_M_endTest_93 : decode me_M_endTest.2.1 93 = .ok (.iaload, 1) := by decide +kernel
theorem d_M_endTest_94 : decode me_M_endTest.2.1 94 = .ok (.iload_n 2, 1) := by decide +kernel
theorem d_M_endTest_95 : decode me_M_endTest.2.1 95 = .ok (.if_icmp .ge 12, 3) := by decide +kernel
theorem d_M_endTest_98 : decode me_M_endTest.2.1 98 = .ok (.aload_n 0, 1) := by decide +kernel
theorem d_M_endTest_99 : decode me_M_endTest.2.1 99 = .ok (.getfield 57, 3) := by decide +kernel
theorem d_M_endTest_102 : decode me_M_endTest.2.1 102 = .ok (.iload_n 1, 1) := by decide +kernel
theorem d_M_endTest_103 : decode me_M_endTest.2.1 103 = .ok (.iaload, 1) := by decide +kernel
theorem d_M_endTest_104 : decode me_M_endTest.2.1 104 = .ok (.goto 4, 3) := by decide +kernel
theorem d_M_endTest_107 : decode me_M_endTest.2.1 107 = .ok (.iload_n 2, 1) := by decide +kernel
theorem d_M_endTest_108 : decode me_M_endTest.2.1 108 = .ok (.iastore, 1) := by decide +kernel
theorem d_M_endTest_109 : decode me_M_endTest.2.1 109 = .ok (.aload_n 0, 1) := by decide +kernel
theorem d_M_endTest_110 : decode me_M_endTest.2.1 110 = .ok (.getfield 60, 3) := by decide +kernel
theorem d_M_endTest_113 : decode me_M_endTest.2.1 113 = .ok (.iload_n 1, 1) := by decide +kernel
theorem d_M_endTest_114 : decode me_M_endTest.2.1 114 = .ok (.iconst 1, 1) := by decide +kernel
theorem d_M_endTest_115 : decode me_M_endTest.2.1 115 = .ok (.bastore, 1) := by decide +kernel
theorem d_M_endTest_116 : decode me_M_endTest.2.1 116 = .ok (.return_, 1) := by decide +kernel
abbrev G_M_endTest_0 (l : Launch) (v : gs_V) (n : Nat) (post : gs_S → Prop) (σ : gs_S) : Prop := gG l v lyM 33 me_M_endTest n (qV v lyM 33 post) 0 [(0, .ref (v.2.2 0))] [] σ
abbrev G_M_endTest_66 (l : Launch) (v : gs_V) (n : Nat) (post : gs_S → Prop) (σ : gs_S) (x1 : Int32) (s0 : Int32) : Prop := gG l v lyM 33 me_M_endTest n (qV v lyM 33 post) 66 [(0, .ref (v.2.2 0)), (1, .int x1)] [.int s0] σ
abbrev G_M_endTest_107 (l : Launch) (v : gs_V) (n : Nat) (post : gs_S → Prop) (σ : gs_S) (x1 : Int32) (x2 : Int32) (s0 : Int32) : Prop := gG l v lyM 33 me_M_endTest n (qV v lyM 33 post) 107 [(0, .ref (v.2.2 0)), (1, .int x1), (2, .int x2)] [.int s0, .ref (v.2.2 15)] σ
abbrev G_M_endTest_108 (l : Launch) (v : gs_V) (n : Nat) (post : gs_S → Prop) (σ : gs_S) (x1 : Int32) (s0 : Int32) (s1 : Int32) : Prop := gG l v lyM 33 me_M_endTest n (qV v lyM 33 post) 108 [(0, .ref (v.2.2 0)), (1, .int x1)] [.int s0, .int s1, .ref (v.2.2 15)] σ
set_option maxRecDepth 20000 in
set_option maxHeartbeats 1000000 in
theorem T_M_endTest_0 {l : Launch} {v : gs_V} {n : Nat} {post : gs_S → Prop} {σ : gs_S} (h : gM l v lyM 33 me_M_endSum n [.ref (v.2.2 0)] σ (qI v lyM 33 (fun r1 σ1 => vp_in (σ.1 0 13) 6 ∧ ((¬ (σ1.1 14 ((σ.1 0 13).toNatClampNeg)) = 0 → vp_in (σ.1 0 13) 6 ∧ ((¬ (σ1.1 14 ((σ.1 0 13).toNatClampNeg)) = 1 → vp_in (σ.1 0 13) 6 ∧ ((r1 ≤ (σ1.1 13 ((σ.1 0 13).toNatClampNeg)) → G_M_endTest_66 l v n post σ1 (σ.1 0 13) 0) ∧ (¬ r1 ≤ (σ1.1 13 ((σ.1 0 13).toNatClampNeg)) → G_M_endTest_66 l v n post σ1 (σ.1 0 13) 1))) ∧ ((σ1.1 14 ((σ.1 0 13).toNatClampNeg)) = 1 → vp_in (σ.1 0 13) 6 ∧ ((¬ (σ1.1 13 ((σ.1 0 13).toNatClampNeg)) = r1 → G_M_endTest_66 l v n post σ1 (σ.1 0 13) 0) ∧ ((σ1.1 13 ((σ.1 0 13).toNatClampNeg)) = r1 → G_M_endTest_66 l v n post σ1 (σ.1 0 13) 1))))) ∧ ((σ1.1 14 ((σ.1 0 13).toNatClampNeg)) = 0 → G_M_endTest_66 l v n post σ1 (σ.1 0 13) r1))))) : G_M_endTest_0 l v n post σ := by
  refine g_aload_n d_M_endTest_0 0 rfl rfl ?_
  refine g_getV (x := .int (σ.1 0 13)) d_M_endTest_1 fl_M_115 (by decide) rfl rfl rfl ?_
  refine g_istore_n (L' := [(1, .int (σ.1 0 13)), (0, .ref (v.2.2 0))]) d_M_endTest_4 rfl (by decide) rfl ?_
  refine g_aload_n d_M_endTest_5 1 rfl rfl ?_
  refine g_callVi (av := []) (rest := []) d_M_endTest_6 Y_M_endSum lk_M_128 (by decide) rfl rfl I_M_endSum rfl (Nat.le_of_ble_eq_true rfl) rfl h (fun r1 σ1 h => ?_)
  refine g_istore_n (L' := [(2, .int r1), (1, .int (σ.1 0 13)), (0, .ref (v.2.2 0))]) d_M_endTest_9 rfl (by decide) rfl ?_
  refine g_aload_n d_M_endTest_10 2 rfl rfl ?_
  refine g_getV (x := .ref (v.2.2 14)) d_M_endTest_11 fl_M_54 (by decide) rfl rfl rfl ?_
  refine g_iload_n d_M_endTest_14 1 rfl rfl ?_
  have hi2 := h.1
  have h := h.2
  refine g_iald (x := σ1.1 14 ((σ.1 0 13).toNatClampNeg)) d_M_endTest_15 (by decide) rfl hi2 rfl ?_
  refine g_if_ne (tgt := 23) d_M_endTest_16 rfl (fun hc => ?_) (fun hc => ?_)
  · have h := h.1 hc
    refine g_aload_n d_M_endTest_23 2 rfl rfl ?_
    refine g_getV (x := .ref (v.2.2 14)) d_M_endTest_24 fl_M_54 (by decide) rfl rfl rfl ?_
    refine g_iload_n d_M_endTest_27 1 rfl rfl ?_
    have hi3 := h.1
    have h := h.2
    refine g_iald (x := σ1.1 14 ((σ.1 0 13).toNatClampNeg)) d_M_endTest_28 (by decide) rfl hi3 rfl ?_
    refine g_iconst d_M_endTest_29 (x := 1) (by decide) ?_
    refine g_icmp_ne (tgt := 51) d_M_endTest_30 rfl (fun hc => ?_) (fun hc => ?_)
    · have h := h.1 hc
      refine g_aload_n d_M_endTest_51 2 rfl rfl ?_
      refine g_getV (x := .ref (v.2.2 13)) d_M_endTest_52 fl_M_51 (by decide) rfl rfl rfl ?_
      refine g_iload_n d_M_endTest_55 1 rfl rfl ?_
      have hi4 := h.1
      have h := h.2
      refine g_iald (x := σ1.1 13 ((σ.1 0 13).toNatClampNeg)) d_M_endTest_56 (by decide) rfl hi4 rfl ?_
      refine g_iload_n d_M_endTest_57 0 rfl rfl ?_
      refine g_icmp_ge (tgt := 65) d_M_endTest_58 rfl (fun hc => ?_) (fun hc => ?_)
      · have h := h.1 hc
        refine g_iconst d_M_endTest_65 (x := 0) (by decide) ?_
        exact g_sub [2, 1] rfl h
      · have h := h.2 hc
        refine g_iconst d_M_endTest_61 (x := 1) (by decide) ?_
        refine g_goto (tgt := 66) d_M_endTest_62 rfl ?_
        exact g_sub [2, 1] rfl h
    · have h := h.2 hc
      refine g_aload_n d_M_endTest_33 2 rfl rfl ?_
      refine g_getV (x := .ref (v.2.2 13)) d_M_endTest_34 fl_M_51 (by decide) rfl rfl rfl ?_
      refine g_iload_n d_M_endTest_37 1 rfl rfl ?_
      have hi5 := h.1
      have h := h.2
      refine g_iald (x := σ1.1 13 ((σ.1 0 13).toNatClampNeg)) d_M_endTest_38 (by decide) rfl hi5 rfl ?_
      refine g_iload_n d_M_endTest_39 0 rfl rfl ?_
      refine g_icmp_ne (tgt := 47) d_M_endTest_40 rfl (fun hc => ?_) (fun hc => ?_)
      · have h := h.1 hc
        refine g_iconst d_M_endTest_47 (x := 0) (by decide) ?_
        refine g_goto (tgt := 66) d_M_endTest_48 rfl ?_
        exact g_sub [2, 1] rfl h
      · have h := h.2 hc
        refine g_iconst d_M_endTest_43 (x := 1) (by decide) ?_
        refine g_goto (tgt := 66) d_M_endTest_44 rfl ?_
        exact g_sub [2, 1] rfl h
  · have h := h.2 hc
    refine g_iload_n d_M_endTest_19 0 rfl rfl ?_
    refine g_goto (tgt := 66) d_M_endTest_20 rfl ?_
    exact g_sub [2, 1] rfl h
set_option maxRecDepth 20000 in
set_option maxHeartbeats 1000000 in
theorem T_M_endTest_66 {l : Launch} {v : gs_V} {n : Nat} {post : gs_S → Prop} {σ : gs_S} {x1 : Int32} {s0 : Int32} (h : vp_in x1 6 ∧ vp_in x1 6 ∧ (((σ.1 16 x1.toNatClampNeg) = 0 → G_M_endTest_107 l v n post (gs_pI σ 14 x1.toNatClampNeg 0) x1 s0 x1) ∧ (¬ (σ.1 16 x1.toNatClampNeg) = 0 → vp_in x1 6 ∧ ((s0 ≤ (σ.1 15 x1.toNatClampNeg) → G_M_endTest_107 l v n post (gs_pI σ 14 x1.toNatClampNeg 0) x1 s0 x1) ∧ (¬ s0 ≤ (σ.1 15 x1.toNatClampNeg) → vp_in x1 6 ∧ G_M_endTest_108 l v n post (gs_pI σ 14 x1.toNatClampNeg 0) x1 (σ.1 15 x1.toNatClampNeg) x1))))) : G_M_endTest_66 l v n post σ x1 s0 := by
  refine g_istore_n (L' := [(2, .int s0), (0, .ref (v.2.2 0)), (1, .int x1)]) d_M_endTest_66 rfl (by decide) rfl ?_
  refine g_aload_n d_M_endTest_67 1 rfl rfl ?_
  refine g_getV (x := .ref (v.2.2 14)) d_M_endTest_68 fl_M_54 (by decide) rfl rfl rfl ?_
  refine g_iload_n d_M_endTest_71 2 rfl rfl ?_
  refine g_iconst d_M_endTest_72 (x := 0) (by decide) ?_
  have hi1 := h.1
  have h := h.2
  refine g_iast d_M_endTest_73 (by decide) rfl hi1 ?_
  refine g_aload_n d_M_endTest_74 1 rfl rfl ?_
  refine g_getV (x := .ref (v.2.2 15)) d_M_endTest_75 fl_M_57 (by decide) rfl rfl rfl ?_
  refine g_iload_n d_M_endTest_78 2 rfl rfl ?_
  refine g_aload_n d_M_endTest_79 1 rfl rfl ?_
  refine g_getV (x := .ref (v.2.2 16)) d_M_endTest_80 fl_M_60 (by decide) rfl rfl rfl ?_
  refine g_iload_n d_M_endTest_83 2 rfl rfl ?_
  have hi2 := h.1
  have h := h.2
  refine g_zald (x := σ.1 16 x1.toNatClampNeg) d_M_endTest_84 (by decide) rfl hi2 rfl ?_
  refine g_if_eq (tgt := 107) d_M_endTest_85 rfl (fun hc => ?_) (fun hc => ?_)
  · have h := h.1 hc
    exact g_sub [1, 2, 0] rfl h
  · have h := h.2 hc
    refine g_aload_n d_M_endTest_88 1 rfl rfl ?_
    refine g_getV (x := .ref (v.2.2 15)) d_M_endTest_89 fl_M_57 (by decide) rfl rfl rfl ?_
    refine g_iload_n d_M_endTest_92 2 rfl rfl ?_
    have hi3 := h.1
    have h := h.2
    refine g_iald (x := σ.1 15 x1.toNatClampNeg) d_M_endTest_93 (by decide) rfl hi3 rfl ?_
    refine g_iload_n d_M_endTest_94 0 rfl rfl ?_
    refine g_icmp_ge (tgt := 107) d_M_endTest_95 rfl (fun hc => ?_) (fun hc => ?_)
    · have h := h.1 hc
      exact g_sub [1, 2, 0] rfl h
    · have h := h.2 hc
      refine g_aload_n d_M_endTest_98 1 rfl rfl ?_
      refine g_getV (x := .ref (v.2.2 15)) d_M_endTest_99 fl_M_57 (by decide) rfl rfl rfl ?_
      refine g_iload_n d_M_endTest_102 2 rfl rfl ?_
      have hi4 := h.1
      have h := h.2
      refine g_iald (x := σ.1 15 x1.toNatClampNeg) d_M_endTest_103 (by decide) rfl hi4 rfl ?_
      refine g_goto (tgt := 108) d_M_endTest_104 rfl ?_
      exact g_sub [1, 2] rfl h
set_option maxRecDepth 20000 in
set_option maxHeartbeats 1000000 in
theorem T_M_endTest_107 {l : Launch} {v : gs_V} {n : Nat} {post : gs_S → Prop} {σ : gs_S} {x1 : Int32} {x2 : Int32} {s0 : Int32} (h : G_M_endTest_108 l v n post σ x1 x2 s0) : G_M_endTest_107 l v n post σ x1 x2 s0 := by
  refine g_iload_n d_M_endTest_107 2 rfl rfl ?_
  exact g_sub [0, 1] rfl h
set_option maxRecDepth 20000 in
set_option maxHeartbeats 1000000 in
theorem T_M_endTest_108 {l : Launch} {v : gs_V} {n : Nat} {post : gs_S → Prop} {σ : gs_S} {x1 : Int32} {s0 : Int32} {s1 : Int32} (h : vp_in s1 6 ∧ vp_in x1 6 ∧ post (gs_pI (gs_pI σ 15 s1.toNatClampNeg s0) 16 x1.toNatClampNeg 1)) : G_M_endTest_108 l v n post σ x1 s0 s1 := by
  have hi1 := h.1
  have h := h.2
  refine g_iast d_M_endTest_108 (by decide) rfl hi1 ?_
  refine g_aload_n d_M_endTest_109 0 rfl rfl ?_
  refine g_getV (x := .ref (v.2.2 16)) d_M_endTest_110 fl_M_60 (by decide) rfl rfl rfl ?_
  refine g_iload_n d_M_endTest_113 1 rfl rfl ?_
  refine g_iconst d_M_endTest_114 (x := 1) (by decide) ?_
  have hi2 := h.1
  have h := h.2
  refine g_zast d_M_endTest_115 (by decide) rfl hi2 ?_
  exact g_vret d_M_endTest_116 rfl h
theorem E_M_endTest {l : Launch} {v : gs_V} {n : Nat} {post : gs_S → Prop} {σ : gs_S} (h : G_M_endTest_0 l v n post σ) : gM l v lyM 33 me_M_endTest (n + 1) [.ref (v.2.2 0)] σ (qV v lyM 33 post) := gM_of (by decide +kernel) (Nat.le_of_ble_eq_true rfl) h
/-! LineRulesModel.equation -/
theorem d_M_equation_0 : decode me_M_equation.2.1 0 = .ok (.iconst 0, 1) := by decide +kernel
theorem d_M_equation_1 : decode me_M_equation.2.1 1 = .ok (.istore_n 2, 1) := by decide +kernel
theorem d_M_equation_2 : decode me_M_equation.2.1 2 = .ok (.iload_n 2, 1) := by decide +kernel
theorem d_M_equation_3 : decode me_M_equation.2.1 3 = .ok (.iconst 4, 1) := by decide +kernel
theorem d_M_equation_4 : decode me_M_equation.2.1 4 = .ok (.if_icmp .ge 16, 3) := by decide +kernel
theorem d_M_equation_7 : decode me_M_equation.2.1 7 = .ok (.aload_n 0, 1) := by decide +kernel
theorem d_M_equation_8 : decode me_M_equation.2.1 8 = .ok (.getfield 85, 3) := by decide +kernel
theorem d_M_equation_11 : decode me_M_equation.2.1 11 = .ok (.iload_n 2, 1) := by decide +kernel
theorem d_M_equation_12 : decode me_M_equation.2.1 12 = .ok (.lconst 0, 1) := by decide +kernel
theorem d_M_equation_13 : decode me_M_equation.2.1 13 = .ok (.lastore, 1) := by decide +kernel
theorem d_M_equation_14 : decode me_M_equation.2.1 14 = .ok (.iinc 2 1, 3) := by decide +kernel
theorem d_M_equation_17 : decode me_M_equation.2.1 17 = .ok (.goto (-15), 3) := by decide +kernel
theorem d_M_equation_20 : decode me_M_equation.2.1 20 = .ok (.aload_n 0, 1) := by decide +kernel
theorem d_M_equation_21 : decode me_M_equation.2.1 21 = .ok (.getfield 85, 3) := by decide +kernel
theorem d_M_equation_24 : decode me_M_equation.2.1 24 = .ok (.aload_n 0, 1) := by decide +kernel
theorem d_M_equation_25 : decode me_M_equation.2.1 25 = .ok (.getfield 13, 3) := by decide +kernel
theorem d_M_equation_28 : decode me_M_equation.2.1 28 = .ok (.iload_n 1, 1) := by decide +kernel
theorem d_M_equation_29 : decode me_M_equation.2.1 29 = .ok (.iaload, 1) := by decide +kernel
theorem d_M_equation_30 : decode me_M_equation.2.1 30 = .ok (.dup2, 1) := by decide +kernel
theorem d_M_equation_31 : decode me_M_equation.2.1 31 = .ok (.laload, 1) := by decide +kernel
theorem d_M_equation_32 : decode me_M_equation.2.1 32 = .ok (.lconst 1, 1) := by decide +kernel
theorem d_M_equation_33 : decode me_M_equation.2.1 33 = .ok (.ladd, 1) := by decide +kernel
theorem d_M_equation_34 : decode me_M_equation.2.1 34 = .ok (.lastore, 1) := by decide +kernel
theorem d_M_equation_35 : decode me_M_equation.2.1 35 = .ok (.aload_n 0, 1) := by decide +kernel
theorem d_M_equation_36 : decode me_M_equation.2.1 36 = .ok (.getfield 85, 3) := by decide +kernel
theorem d_M_equation_39 : decode me_M_equation.2.1 39 = .ok (.iload_n 1, 1) := by decide +kernel
theorem d_M_equation_40 : decode me_M_equation.2.1 40 = .ok (.aload_n 0, 1) := by decide +kernel
theorem d_M_equation_41 : decode me_M_equation.2.1 41 = .ok (.getfield 188, 3) := by decide +kernel
theorem d_M_equation_44 : decode me_M_equation.2.1 44 = .ok (.idiv, 1) := by decide +kernel
theorem d_M_equation_45 : decode me_M_equation.2.1 45 = .ok (.dup2, 1) := by decide +kernel
theorem d_M_equation_46 : decode me_M_equation.2.1 46 = .ok (.laload, 1) := by decide +kernel
theorem d_M_equation_47 : decode me_M_equation.2.1 47 = .ok (.lconst 1, 1) := by decide +kernel
theorem d_M_equation_48 : decode me_M_equation.2.1 48 = .ok (.lsub, 1) := by decide +kernel
theorem d_M_equation_49 : decode me_M_equation.2.1 49 = .ok (.lastore, 1) := by decide +kernel
theorem d_M_equation_50 : decode me_M_equation.2.1 50 = .ok (.iconst 1, 1) := by decide +kernel
theorem d_M_equation_51 : decode me_M_equation.2.1 51 = .ok (.istore_n 2, 1) := by decide +kernel
theorem d_M_equation_52 : decode me_M_equation.2.1 52 = .ok (.iload_n 2, 1) := by decide +kernel
theorem d_M_equation_53 : decode me_M_equation.2.1 53 = .ok (.aload_n 0, 1) := by decide +kernel
theorem d_M_equation_54 : decode me_M_equation.2.1 54 = .ok (.getfield 182, 3) := by decide +kernel
theorem d_M_equation_57 : decode me_M_equation.2.1 57 = .ok (.if_icmp .ge 74, 3) := by decide +kernel
theorem d_M_equation_60 : decode me_M_equation.2.1 60 = .ok (.aload_n 0, 1) := by decide +kernel
theorem d_M_equation_61 : decode me_M_equation.2.1 61 = .ok (.getfield 85, 3) := by decide +kernel
theorem d_M_equation_64 : decode me_M_equation.2.1 64 = .ok (.aload_n 0, 1) := by decide +kernel
theorem d_M_equation_65 : decode me_M_equation.2.1 65 = .ok (.getfield 13, 3) := by decide +kernel
theorem d_M_equation_68 : decode me_M_equation.2.1 68 = .ok (.iload_n 1, 1) := by decide +kernel
theorem d_M_equation_69 : decode me_M_equation.2.1 69 = .ok (.aload_n 0, 1) := by decide +kernel
theorem d_M_equation_70 : decode me_M_equation.2.1 70 = .ok (.getfield 188, 3) := by decide +kernel
theorem d_M_equation_73 : decode me_M_equation.2.1 73 = .ok (.irem, 1) := by decide +kernel
theorem d_M_equation_74 : decode me_M_equation.2.1 74 = .ok (.aload_n 0, 1) := by decide +kernel
theorem d_M_equation_75 : decode me_M_equation.2.1 75 = .ok (.getfield 179, 3) := by decide +kernel
theorem d_M_equation_78 : decode me_M_equation.2.1 78 = .ok (.aload_n 0, 1) := by decide +kernel
theorem d_M_equation_79 : decode me_M_equation.2.1 79 = .ok (.getfield 182, 3) := by decide +kernel
theorem d_M_equation_82 : decode me_M_equation.2.1 82 = .ok (.iconst 1, 1) := by decide +kernel
theorem d_M_equation_83 : decode me_M_equation.2.1 83 = .ok (.isub, 1) := by decide +kernel
theorem d_M_equation_84 : decode me_M_equation.2.1 84 = .ok (.iload_n 2, 1) := by decide +kernel
theorem d_M_equation_85 : decode me_M_equation.2.1 85 = .ok (.isub, 1) := by decide +kernel
theorem d_M_equation_86 : decode me_M_equation.2.1 86 = .ok (.invokestatic 147, 3) := by decide +kernel
theorem d_M_equation_89 : decode me_M_equation.2.1 89 = .ok (.idiv, 1) := by decide +kernel
theorem d_M_equation_90 : decode me_M_equation.2.1 90 = .ok (.iaload, 1) := by decide +kernel
theorem d_M_equation_91 : decode me_M_equation.2.1 91 = .ok (.dup2, 1) := by decide +kernel
theorem d_M_equation_92 : decode me_M_equation.2.1 92 = .ok (.laload, 1) := by decide +kernel
theorem d_M_equation_93 : decode me_M_equation.2.1 93 = .ok (.lconst 1, 1) := by decide +kernel
theorem d_M_equation_94 : decode me_M_equation.2.1 94 = .ok (.lsub, 1) := by decide +kernel
theorem d_M_equation_95 : decode me_M_equation.2.1 95 = .ok (.lastore, 1) := by decide +kernel
theorem d_M_equation_96 : decode me_M_equation.2.1 96 = .ok (.aload_n 0, 1) := by decide +kernel
theorem d_M_equation_97 : decode me_M_equation.2.1 97 = .ok (.getfield 85, 3) := by decide +kernel
theorem d_M_equation_100 : decode me_M_equation.2.1 100 = .ok (.aload_n 0, 1) := by decide +kernel
theorem d_M_equation_101 : decode me_M_equation.2.1 101 = .ok (.getfield 13, 3) := by decide +kernel
theorem d_M_equation_104 : decode me_M_equation.2.1 104 = .ok (.iload_n 1, 1) := by decide +kernel
theorem d_M_equation_105 : decode me_M_equation.2.1 105 = .ok (.aload_n 0, 1) := by decide +kernel
theorem d_M_equation_106 : decode me_M_equation.2.1 106 = .ok (.getfield 179, 3) := by decide +kernel
theorem d_M_equation_109 : decode me_M_equation.2.1 109 = .ok (.aload_n 0, 1) := by decide +kernel
theorem d_M_equation_110 : decode me_M_equation.2.1 110 = .ok (.getfield 182, 3) := by decide +kernel
theorem d_M_equation_113 : decode me_M_equation.2.1 113 = .ok (.iload_n 2, 1) := by decide +kernel
theorem d_M_equation_114 : decode me_M_equation.2.1 114 = .ok (.isub, 1) := by decide +kernel
theorem d_M_equation_115 : decode me_M_equation.2.1 115 = .ok (.invokestatic 147, 3) := by decide +kernel
theorem d_M_equation_118 : decode me_M_equation.2.1 118 = .ok (.idiv, 1) := by decide +kernel
theorem d_M_equation_119 : decode me_M_equation.2.1 119 = .ok (.iaload, 1) := by decide +kernel
theorem d_M_equation_120 : decode me_M_equation.2.1 120 = .ok (.dup2, 1) := by decide +kernel
theorem d_M_equation_121 : decode me_M_equation.2.1 121 = .ok (.laload, 1) := by decide +kernel
theorem d_M_equation_122 : decode me_M_equation.2.1 122 = .ok (.lconst 1, 1) := by decide +kernel
theorem d_M_equation_123 : decode me_M_equation.2.1 123 = .ok (.ladd, 1) := by decide +kernel
theorem d_M_equation_124 : decode me_M_equation.2.1 124 = .ok (.lastore, 1) := by decide +kernel
theorem d_M_equation_125 : decode me_M_equation.2.1 125 = .ok (.iinc 2 1, 3) := by decide +kernel
theorem d_M_equation_128 : decode me_M_equation.2.1 128 = .ok (.goto (-76), 3) := by decide +kernel
theorem d_M_equation_131 : decode me_M_equation.2.1 131 = .ok (.return_, 1) := by decide +kernel
abbrev G_M_equation_0 (l : Launch) (v : gs_V) (n : Nat) (post : gs_S → Prop) (σ : gs_S) (x1 : Int32) : Prop := gG l v lyM 33 me_M_equation n (qV v lyM 33 post) 0 [(0, .ref (v.2.2 0)), (1, .int x1)] [] σ
abbrev G_M_equation_2 (l : Launch) (v : gs_V) (n : Nat) (post : gs_S → Prop) (σ : gs_S) (x1 : Int32) (x2 : Int32) : Prop := gG l v lyM 33 me_M_equation n (qV v lyM 33 post) 2 [(0, .ref (v.2.2 0)), (1, .int x1), (2, .int x2)] [] σ
abbrev G_M_equation_52 (l : Launch) (v : gs_V) (n : Nat) (post : gs_S → Prop) (σ : gs_S) (x1 : Int32) (x2 : Int32) : Prop := gG l v lyM 33 me_M_equation n (qV v lyM 33 post) 52 [(0, .ref (v.2.2 0)), (1, .int x1), (2, .int x2)] [] σ
set_option maxRecDepth 20000 in
set_option maxHeartbeats 1000000 in
theorem T_M_equation_0 {l : Launch} {v : gs_V} {n : Nat} {post : gs_S → Prop} {σ : gs_S} {x1 : Int32} (h : G_M_equation_2 l v n post σ x1 0) : G_M_equation_0 l v n post σ x1 := by
  refine g_iconst d_M_equation_0 (x := 0) (by decide) ?_
  refine g_istore_n (L' := [(2, .int 0), (0, .ref (v.2.2 0)), (1, .int x1)]) d_M_equation_1 rfl (by decide) rfl ?_
  exact g_sub [1, 2, 0] rfl h
set_option maxRecDepth 20000 in
set_option maxHeartbeats 1000000 in
theorem T_M_equation_2 {l : Launch} {v : gs_V} {n : Nat} {post : gs_S → Prop} {σ : gs_S} {x1 : Int32} {x2 : Int32} (h : ((4 ≤ x2 → vp_in x1 256 ∧ vp_in (σ.1 2 x1.toNatClampNeg) 4 ∧ vp_in (σ.1 2 x1.toNatClampNeg) 4 ∧ ¬ (σ.1 0 4) = 0 ∧ vp_in (x1 / (σ.1 0 4)) 4 ∧ vp_in (x1 / (σ.1 0 4)) 4 ∧ G_M_equation_52 l v n post (gs_pL (gs_pL σ 24 ((σ.1 2 x1.toNatClampNeg).toNatClampNeg) ((σ.2.1 24 ((σ.1 2 x1.toNatClampNeg).toNatClampNeg)) + 1)) 24 ((x1 / (σ.1 0 4)).toNatClampNeg) (((gs_pL σ 24 ((σ.1 2 x1.toNatClampNeg).toNatClampNeg) ((σ.2.1 24 ((σ.1 2 x1.toNatClampNeg).toNatClampNeg)) + 1)).2.1 24 ((x1 / (σ.1 0 4)).toNatClampNeg)) - 1)) x1 1) ∧ (¬ 4 ≤ x2 → vp_in x2 4 ∧ G_M_equation_2 l v n post (gs_pL σ 24 x2.toNatClampNeg 0) x1 (x2 + 1)))) : G_M_equation_2 l v n post σ x1 x2 := by
  refine g_iload_n d_M_equation_2 2 rfl rfl ?_
  refine g_iconst d_M_equation_3 (x := 4) (by decide) ?_
  refine g_icmp_ge (tgt := 20) d_M_equation_4 rfl (fun hc => ?_) (fun hc => ?_)
  · have h := h.1 hc
    refine g_aload_n d_M_equation_20 0 rfl rfl ?_
    refine g_getV (x := .ref (v.2.2 24)) d_M_equation_21 fl_M_85 (by decide) rfl rfl rfl ?_
    refine g_aload_n d_M_equation_24 0 rfl rfl ?_
    refine g_getV (x := .ref (v.2.2 2)) d_M_equation_25 fl_M_13 (by decide) rfl rfl rfl ?_
    refine g_iload_n d_M_equation_28 1 rfl rfl ?_
    have hi1 := h.1
    have h := h.2
    refine g_iald (x := σ.1 2 x1.toNatClampNeg) d_M_equation_29 (by decide) rfl hi1 rfl ?_
    refine g_dup2_11 d_M_equation_30 rfl rfl ?_
    have hi2 := h.1
    have h := h.2
    refine g_lald (x := σ.2.1 24 ((σ.1 2 x1.toNatClampNeg).toNatClampNeg)) d_M_equation_31 (by decide) rfl hi2 rfl ?_
    refine g_lconst d_M_equation_32 (x := 1) (by decide) ?_
    refine g_ladd d_M_equation_33 ?_
    have hi3 := h.1
    have h := h.2
    refine g_last d_M_equation_34 (by decide) rfl hi3 ?_
    refine g_aload_n d_M_equation_35 0 rfl rfl ?_
    refine g_getV (x := .ref (v.2.2 24)) d_M_equation_36 fl_M_85 (by decide) rfl rfl rfl ?_
    refine g_iload_n d_M_equation_39 1 rfl rfl ?_
    refine g_aload_n d_M_equation_40 0 rfl rfl ?_
    refine g_getV (x := .int (σ.1 0 4)) d_M_equation_41 fl_M_188 (by decide) rfl rfl rfl ?_
    refine g_idiv d_M_equation_44 h.1 ?_
    have h := h.2
    refine g_dup2_11 d_M_equation_45 rfl rfl ?_
    have hi4 := h.1
    have h := h.2
    refine g_lald (x := (gs_pL σ 24 ((σ.1 2 x1.toNatClampNeg).toNatClampNeg) ((σ.2.1 24 ((σ.1 2 x1.toNatClampNeg).toNatClampNeg)) + 1)).2.1 24 ((x1 / (σ.1 0 4)).toNatClampNeg)) d_M_equation_46 (by decide) rfl hi4 rfl ?_
    refine g_lconst d_M_equation_47 (x := 1) (by decide) ?_
    refine g_lsub d_M_equation_48 ?_
    have hi5 := h.1
    have h := h.2
    refine g_last d_M_equation_49 (by decide) rfl hi5 ?_
    refine g_iconst d_M_equation_50 (x := 1) (by decide) ?_
    refine g_istore_n (L' := [(2, .int 1), (0, .ref (v.2.2 0)), (1, .int x1)]) d_M_equation_51 rfl (by decide) rfl ?_
    exact g_sub [1, 2, 0] rfl h
  · have h := h.2 hc
    refine g_aload_n d_M_equation_7 0 rfl rfl ?_
    refine g_getV (x := .ref (v.2.2 24)) d_M_equation_8 fl_M_85 (by decide) rfl rfl rfl ?_
    refine g_iload_n d_M_equation_11 2 rfl rfl ?_
    refine g_lconst d_M_equation_12 (x := 0) (by decide) ?_
    have hi6 := h.1
    have h := h.2
    refine g_last d_M_equation_13 (by decide) rfl hi6 ?_
    refine g_iinc (L' := [(2, .int (x2 + 1)), (0, .ref (v.2.2 0)), (1, .int x1)]) d_M_equation_14 2 rfl (by rfl) (by decide) rfl ?_
    refine g_goto (tgt := 2) d_M_equation_17 rfl ?_
    exact g_sub [1, 2, 0] rfl h
set_option maxRecDepth 20000 in
set_option maxHeartbeats 1000000 in
theorem T_M_equation_52 {l : Launch} {v : gs_V} {n : Nat} {post : gs_S → Prop} {σ : gs_S} {x1 : Int32} {x2 : Int32} (h : (((σ.1 0 3) ≤ x2 → post σ) ∧ (¬ (σ.1 0 3) ≤ x2 → ¬ (σ.1 0 4) = 0 ∧ gM l v lyM 33 me_M_powerOf n [.int (σ.1 0 2), .int (((σ.1 0 3) - 1) - x2)] σ (qI v lyM 33 (fun r1 σ1 => ¬ r1 = 0 ∧ vp_in ((jR x1 (σ.1 0 4)) / r1) 256 ∧ vp_in (σ1.1 2 (((jR x1 (σ.1 0 4)) / r1).toNatClampNeg)) 4 ∧ vp_in (σ1.1 2 (((jR x1 (σ.1 0 4)) / r1).toNatClampNeg)) 4 ∧ gM l v lyM 33 me_M_powerOf n [.int (σ1.1 0 2), .int ((σ1.1 0 3) - x2)] (gs_pL σ1 24 ((σ1.1 2 (((jR x1 (σ.1 0 4)) / r1).toNatClampNeg)).toNatClampNeg) ((σ1.2.1 24 ((σ1.1 2 (((jR x1 (σ.1 0 4)) / r1).toNatClampNeg)).toNatClampNeg)) - 1)) (qI v lyM 33 (fun r5 σ5 => ¬ r5 = 0 ∧ vp_in (x1 / r5) 256 ∧ vp_in (σ5.1 2 ((x1 / r5).toNatClampNeg)) 4 ∧ vp_in (σ5.1 2 ((x1 / r5).toNatClampNeg)) 4 ∧ G_M_equation_52 l v n post (gs_pL σ5 24 ((σ5.1 2 ((x1 / r5).toNatClampNeg)).toNatClampNeg) ((σ5.2.1 24 ((σ5.1 2 ((x1 / r5).toNatClampNeg)).toNatClampNeg)) + 1)) x1 (x2 + 1)))))))) : G_M_equation_52 l v n post σ x1 x2 := by
  refine g_iload_n d_M_equation_52 2 rfl rfl ?_
  refine g_aload_n d_M_equation_53 0 rfl rfl ?_
  refine g_getV (x := .int (σ.1 0 3)) d_M_equation_54 fl_M_182 (by decide) rfl rfl rfl ?_
  refine g_icmp_ge (tgt := 131) d_M_equation_57 rfl (fun hc => ?_) (fun hc => ?_)
  · have h := h.1 hc
    exact g_vret d_M_equation_131 rfl h
  · have h := h.2 hc
    refine g_aload_n d_M_equation_60 0 rfl rfl ?_
    refine g_getV (x := .ref (v.2.2 24)) d_M_equation_61 fl_M_85 (by decide) rfl rfl rfl ?_
    refine g_aload_n d_M_equation_64 0 rfl rfl ?_
    refine g_getV (x := .ref (v.2.2 2)) d_M_equation_65 fl_M_13 (by decide) rfl rfl rfl ?_
    refine g_iload_n d_M_equation_68 1 rfl rfl ?_
    refine g_aload_n d_M_equation_69 0 rfl rfl ?_
    refine g_getV (x := .int (σ.1 0 4)) d_M_equation_70 fl_M_188 (by decide) rfl rfl rfl ?_
    refine g_irem d_M_equation_73 h.1 ?_
    have h := h.2
    refine g_aload_n d_M_equation_74 0 rfl rfl ?_
    refine g_getV (x := .int (σ.1 0 2)) d_M_equation_75 fl_M_179 (by decide) rfl rfl rfl ?_
    refine g_aload_n d_M_equation_78 0 rfl rfl ?_
    refine g_getV (x := .int (σ.1 0 3)) d_M_equation_79 fl_M_182 (by decide) rfl rfl rfl ?_
    refine g_iconst d_M_equation_82 (x := 1) (by decide) ?_
    refine g_isub d_M_equation_83 ?_
    refine g_iload_n d_M_equation_84 2 rfl rfl ?_
    refine g_isub d_M_equation_85 ?_
    refine g_callSi (av := [.int (σ.1 0 2), .int (((σ.1 0 3) - 1) - x2)]) (rest := [.int (jR x1 (σ.1 0 4)), .ref (v.2.2 2), .ref (v.2.2 24)]) d_M_equation_86 Y_M_powerOf lk_M_147 I_M_powerOf rfl (Nat.le_of_ble_eq_true rfl) rfl h (fun r1 σ1 h => ?_)
    refine g_idiv d_M_equation_89 h.1 ?_
    have h := h.2
    have hi2 := h.1
    have h := h.2
    refine g_iald (x := σ1.1 2 (((jR x1 (σ.1 0 4)) / r1).toNatClampNeg)) d_M_equation_90 (by decide) rfl hi2 rfl ?_
    refine g_dup2_11 d_M_equation_91 rfl rfl ?_
    have hi3 := h.1
    have h := h.2
    refine g_lald (x := σ1.2.1 24 ((σ1.1 2 (((jR x1 (σ.1 0 4)) / r1).toNatClampNeg)).toNatClampNeg)) d_M_equation_92 (by decide) rfl hi3 rfl ?_
    refine g_lconst d_M_equation_93 (x := 1) (by decide) ?_
    refine g_lsub d_M_equation_94 ?_
    have hi4 := h.1
    have h := h.2
    refine g_last d_M_equation_95 (by decide) rfl hi4 ?_
    refine g_aload_n d_M_equation_96 0 rfl rfl ?_
    refine g_getV (x := .ref (v.2.2 24)) d_M_equation_97 fl_M_85 (by decide) rfl rfl rfl ?_
    refine g_aload_n d_M_equation_100 0 rfl rfl ?_
    refine g_getV (x := .ref (v.2.2 2)) d_M_equation_101 fl_M_13 (by decide) rfl rfl rfl ?_
    refine g_iload_n d_M_equation_104 1 rfl rfl ?_
    refine g_aload_n d_M_equation_105 0 rfl rfl ?_
    refine g_getV (x := .int (σ1.1 0 2)) d_M_equation_106 fl_M_179 (by decide) rfl rfl rfl ?_
    refine g_aload_n d_M_equation_109 0 rfl rfl ?_
    refine g_getV (x := .int (σ1.1 0 3)) d_M_equation_110 fl_M_182 (by decide) rfl rfl rfl ?_
    refine g_iload_n d_M_equation_113 2 rfl rfl ?_
    refine g_isub d_M_equation_114 ?_
    refine g_callSi (av := [.int (σ1.1 0 2), .int ((σ1.1 0 3) - x2)]) (rest := [.int x1, .ref (v.2.2 2), .ref (v.2.2 24)]) d_M_equation_115 Y_M_powerOf lk_M_147 I_M_powerOf rfl (Nat.le_of_ble_eq_true rfl) rfl h (fun r5 σ5 h => ?_)
    refine g_idiv d_M_equation_118 h.1 ?_
    have h := h.2
    have hi6 := h.1
    have h := h.2
    refine g_iald (x := σ5.1 2 ((x1 / r5).toNatClampNeg)) d_M_equation_119 (by decide) rfl hi6 rfl ?_
    refine g_dup2_11 d_M_equation_120 rfl rfl ?_
    have hi7 := h.1
    have h := h.2
    refine g_lald (x := σ5.2.1 24 ((σ5.1 2 ((x1 / r5).toNatClampNeg)).toNatClampNeg)) d_M_equation_121 (by decide) rfl hi7 rfl ?_
    refine g_lconst d_M_equation_122 (x := 1) (by decide) ?_
    refine g_ladd d_M_equation_123 ?_
    have hi8 := h.1
    have h := h.2
    refine g_last d_M_equation_124 (by decide) rfl hi8 ?_
    refine g_iinc (L' := [(2, .int (x2 + 1)), (0, .ref (v.2.2 0)), (1, .int x1)]) d_M_equation_125 2 rfl (by rfl) (by decide) rfl ?_
    refine g_goto (tgt := 52) d_M_equation_128 rfl ?_
    exact g_sub [1, 2, 0] rfl h
theorem E_M_equation {l : Launch} {v : gs_V} {n : Nat} {post : gs_S → Prop} {σ : gs_S} {x1 : Int32} (h : G_M_equation_0 l v n post σ x1) : gM l v lyM 33 me_M_equation (n + 1) [.ref (v.2.2 0), .int x1] σ (qV v lyM 33 post) := gM_of (by decide +kernel) (Nat.le_of_ble_eq_true rfl) h
/-! LineRulesModel.findBefore -/
theorem d_M_findBefore_0 : decode me_M_findBefore.2.1 0 = .ok (.aload_n 0, 1) := by decide +kernel
theorem d_M_findBefore_1 : decode me_M_findBefore.2.1 1 = .ok (.getfield 210, 3) := by decide +kernel
theorem d_M_findBefore_4 : decode me_M_findBefore.2.1 4 = .ok (.ifCond .eq 4, 3) := by decide +kernel
theorem d_M_findBefore_7 : decode me_M_findBefore.2.1 7 = .ok (.return_, 1) := by decide +kernel
theorem d_M_findBefore_8 : decode me_M_findBefore.2.1 8 = .ok (.aload_n 0, 1) := by decide +kernel
theorem d_M_findBefore_9 : decode me_M_findBefore.2.1 9 = .ok (.iconst 1, 1) := by decide +kernel
theorem d_M_findBefore_10 : decode me_M_findBefore.2.1 10 = .ok (.putfield 210, 3) := by decide +kernel
theorem d_M_findBefore_13 : decode me_M_findBefore.2.1 13 = .ok (.aload_n 0, 1) := by decide +kernel
theorem d_M_findBefore_14 : decode me_M_findBefore.2.1 14 = .ok (.iconst 0, 1) := by decide +kernel
theorem d_M_findBefore_15 : decode me_M_findBefore.2.1 15 = .ok (.putfield 291, 3) := by decide +kernel
theorem d_M_findBefore_18 : decode me_M_findBefore.2.1 18 = .ok (.aload_n 0, 1) := by decide +kernel
theorem d_M_findBefore_19 : decode me_M_findBefore.2.1 19 = .ok (.lconst 0, 1) := by decide +kernel
theorem d_M_findBefore_20 : decode me_M_findBefore.2.1 20 = .ok (.putfield 294, 3) := by decide +kernel
theorem d_M_findBefore_23 : decode me_M_findBefore.2.1 23 = .ok (.iconst 0, 1) := by decide +kernel
theorem d_M_findBefore_24 : decode me_M_findBefore.2.1 24 = .ok (.istore_n 1, 1) := by decide +kernel
theorem d_M_findBefore_25 : decode me_M_findBefore.2.1 25 = .ok (.iload_n 1, 1) := by decide +kernel
theorem d_M_findBefore_26 : decode me_M_findBefore.2.1 26 = .ok (.aload_n 0, 1) := by decide +kernel
theorem d_M_findBefore_27 : decode me_M_findBefore.2.1 27 = .ok (.getfield 188, 3) := by decide +kernel
theorem d_M_findBefore_30 : decode me_M_findBefore.2.1 30 = .ok (.if_icmp .ge 60, 3) := by decide +kernel
theorem d_M_findBefore_33 : decode me_M_findBefore.2.1 33 = .ok (.aload_n 0, 1) := by decide +kernel
theorem d_M_findBefore_34 : decode me_M_findBefore.2.1 34 = .ok (.iload_n 1, 1) := by decide +kernel
theorem d_M_findBefore_35 : decode me_M_findBefore.2.1 35 = .ok (.invokevirtual 298, 3) := by decide +kernel
theorem d_M_findBefore_38 : decode me_M_findBefore.2.1 38 = .ok (.aload_n 0, 1) := by decide +kernel
theorem d_M_findBefore_39 : decode me_M_findBefore.2.1 39 = .ok (.getfield 109, 3) := by decide +kernel
theorem d_M_findBefore_42 : decode me_M_findBefore.2.1 42 = .ok (.iconst 0, 1) := by decide +kernel
theorem d_M_findBefore_43 : decode me_M_findBefore.2.1 43 = .ok (.laload, 1) := by decide +kernel
theorem d_M_findBefore_44 : decode me_M_findBefore.2.1 44 = .ok (.iload_n 1, 1) := by decide +kernel
theorem d_M_findBefore_45 : decode me_M_findBefore.2.1 45 = .ok (.lshr, 1) := by decide +kernel
theorem d_M_findBefore_46 : decode me_M_findBefore.2.1 46 = .ok (.lconst 1, 1) := by decide +kernel
theorem d_M_findBefore_47 : decode me_M_findBefore.2.1 47 = .ok (.land, 1) := by decide +kernel
theorem d_M_findBefore_48 : decode me_M_findBefore.2.1 48 = .ok (.lconst 1, 1) := by decide +kernel
theorem d_M_findBefore_49 : decode me_M_findBefore.2.1 49 = .ok (.lcmp, 1) := by decide +kernel
theorem d_M_findBefore_50 : decode me_M_findBefore.2.1 50 = .ok (.ifCond .ne 34, 3) := by decide +kernel
theorem d_M_findBefore_53 : decode me_M_findBefore.2.1 53 = .ok (.aload_n 0, 1) := by decide +kernel
theorem d_M_findBefore_54 : decode me_M_findBefore.2.1 54 = .ok (.getfield 291, 3) := by decide +kernel
theorem d_M_findBefore_57 : decode me_M_findBefore.2.1 57 = .ok (.ifCond .ne 8, 3) := by decide +kernel
theorem d_M_findBefore_60 : decode me_M_findBefore.2.1 60 = .ok (.aload_n 0, 1) := by decide +kernel
theorem d_M_findBefore_61 : decode me_M_findBefore.2.1 61 = .ok (.iload_n 1, 1) := by decide +kernel
theorem d_M_findBefore_62 : decode me_M_findBefore.2.1 62 = .ok (.invokevirtual 301, 3) := by decide +kernel
theorem d_M_findBefore_65 : decode me_M_findBefore.2.1 65 = .ok (.aload_n 0, 1) := by decide +kernel
theorem d_M_findBefore_66 : decode me_M_findBefore.2.1 66 = .ok (.iconst 1, 1) := by decide +kernel
theorem d_M_findBefore_67 : decode me_M_findBefore.2.1 67 = .ok (.putfield 291, 3) := by decide +kernel
theorem d_M_findBefore_70 : decode me_M_findBefore.2.1 70 = .ok (.aload_n 0, 1) := by decide +kernel
theorem d_M_findBefore_71 : decode me_M_findBefore.2.1 71 = .ok (.dup, 1) := by decide +kernel
theorem d_M_findBefore_72 : decode me_M_findBefore.2.1 72 = .ok (.getfield 294, 3) := by decide +kernel
theorem d_M_findBefore_75 : decode me_M_findBefore.2.1 75 = .ok (.aload_n 0, 1) := by decide +kernel
theorem d_M_findBefore_76 : decode me_M_findBefore.2.1 76 = .ok (.iload_n 1, 1) := by decide +kernel
theorem d_M_findBefore_77 : decode me_M_findBefore.2.1 77 = .ok (.invokevirtual 304, 3) := by decide +kernel
theorem d_M_findBefore_80 : decode me_M_findBefore.2.1 80 = .ok (.ladd, 1) := by decide +kernel
theorem d_M_findBefore_81 : decode me_M_findBefore.2.1 81 = .ok (.putfield 294, 3) := by decide +kernel
theorem d_M_findBefore_84 : decode me_M_findBefore.2.1 84 = .ok (.iinc 1 1, 3) := by decide +kernel
theorem d_M_findBefore_87 : decode me_M_findBefore.2.1 87 = .ok (.goto (-62), 3) := by decide +kernel
theorem d_M_findBefore_90 : decode me_M_findBefore.2.1 90 = .ok (.return_, 1) := by decide +kernel
abbrev G_M_findBefore_0 (l : Launch) (v : gs_V) (n : Nat) (post : gs_S → Prop) (σ : gs_S) : Prop := gG l v lyM 33 me_M_findBefore n (qV v lyM 33 post) 0 [(0, .ref (v.2.2 0))] [] σ
abbrev G_M_findBefore_25 (l : Launch) (v : gs_V) (n : Nat) (post : gs_S → Prop) (σ : gs_S) (x1 : Int32) : Prop := gG l v lyM 33 me_M_findBefore n (qV v lyM 33 post) 25 [(0, .ref (v.2.2 0)), (1, .int x1)] [] σ
abbrev G_M_findBefore_65 (l : Launch) (v : gs_V) (n : Nat) (post : gs_S → Prop) (σ : gs_S) (x1 : Int32) : Prop := gG l v lyM 33 me_M_findBefore n (qV v lyM 33 post) 65 [(0, .ref (v.2.2 0)), (1, .int x1)] [] σ
abbrev G_M_findBefore_84 (l : Launch) (v : gs_V) (n : Nat) (post : gs_S → Prop) (σ : gs_S) (x1 : Int32) : Prop := gG l v lyM 33 me_M_findBefore n (qV v lyM 33 post) 84 [(0, .ref (v.2.2 0)), (1, .int x1)] [] σ
set_option maxRecDepth 20000 in
set_option maxHeartbeats 1000000 in
theorem T_M_findBefore_0 {l : Launch} {v : gs_V} {n : Nat} {post : gs_S → Prop} {σ : gs_S} (h : (((σ.1 0 47) = 0 → G_M_findBefore_25 l v n post (gs_pL (gs_pI (gs_pI σ 0 47 1) 0 48 0) 0 49 0) 0) ∧ (¬ (σ.1 0 47) = 0 → post σ))) : G_M_findBefore_0 l v n post σ := by
  refine g_aload_n d_M_findBefore_0 0 rfl rfl ?_
  refine g_getV (x := .int (σ.1 0 47)) d_M_findBefore_1 fl_M_210 (by decide) rfl rfl rfl ?_
  refine g_if_eq (tgt := 8) d_M_findBefore_4 rfl (fun hc => ?_) (fun hc => ?_)
  · have h := h.1 hc
    refine g_aload_n d_M_findBefore_8 0 rfl rfl ?_
    refine g_iconst d_M_findBefore_9 (x := 1) (by decide) ?_
    refine g_putI d_M_findBefore_10 fp_M_210 (by decide) rfl rfl ⟨rfl, rfl⟩ ?_
    refine g_aload_n d_M_findBefore_13 0 rfl rfl ?_
    refine g_iconst d_M_findBefore_14 (x := 0) (by decide) ?_
    refine g_putI d_M_findBefore_15 fp_M_291 (by decide) rfl rfl ⟨rfl, rfl⟩ ?_
    refine g_aload_n d_M_findBefore_18 0 rfl rfl ?_
    refine g_lconst d_M_findBefore_19 (x := 0) (by decide) ?_
    refine g_putL d_M_findBefore_20 fp_M_294 (by decide) rfl rfl ?_
    refine g_iconst d_M_findBefore_23 (x := 0) (by decide) ?_
    refine g_istore_n (L' := [(1, .int 0), (0, .ref (v.2.2 0))]) d_M_findBefore_24 rfl (by decide) rfl ?_
    exact g_sub [1, 0] rfl h
  · have h := h.2 hc
    exact g_vret d_M_findBefore_7 rfl h
set_option maxRecDepth 20000 in
set_option maxHeartbeats 1000000 in
theorem T_M_findBefore_25 {l : Launch} {v : gs_V} {n : Nat} {post : gs_S → Prop} {σ : gs_S} {x1 : Int32} (h : (((σ.1 0 4) ≤ x1 → post σ) ∧ (¬ (σ.1 0 4) ≤ x1 → gM l v lyM 33 me_M_lookBack n [.ref (v.2.2 0), .int x1] σ (qV v lyM 33 (fun σ1 => ((¬ ((jA (σ1.2.1 32 0) x1) &&& 1) = 1 → G_M_findBefore_84 l v n post σ1 x1) ∧ (((jA (σ1.2.1 32 0) x1) &&& 1) = 1 → ((¬ (σ1.1 0 48) = 0 → G_M_findBefore_65 l v n post σ1 x1) ∧ ((σ1.1 0 48) = 0 → gM l v lyM 33 me_M_spellRing n [.ref (v.2.2 0), .int x1] σ1 (qV v lyM 33 (fun σ2 => G_M_findBefore_65 l v n post σ2 x1))))))))))) : G_M_findBefore_25 l v n post σ x1 := by
  refine g_iload_n d_M_findBefore_25 1 rfl rfl ?_
  refine g_aload_n d_M_findBefore_26 0 rfl rfl ?_
  refine g_getV (x := .int (σ.1 0 4)) d_M_findBefore_27 fl_M_188 (by decide) rfl rfl rfl ?_
  refine g_icmp_ge (tgt := 90) d_M_findBefore_30 rfl (fun hc => ?_) (fun hc => ?_)
  · have h := h.1 hc
    exact g_vret d_M_findBefore_90 rfl h
  · have h := h.2 hc
    refine g_aload_n d_M_findBefore_33 0 rfl rfl ?_
    refine g_iload_n d_M_findBefore_34 1 rfl rfl ?_
    refine g_callVv (av := [.int x1]) (rest := []) d_M_findBefore_35 Y_M_lookBack lk_M_298 (by decide) rfl rfl I_M_lookBack rfl (Nat.le_of_ble_eq_true rfl) rfl h (fun σ1 h => ?_)
    refine g_aload_n d_M_findBefore_38 0 rfl rfl ?_
    refine g_getV (x := .ref (v.2.2 32)) d_M_findBefore_39 fl_M_109 (by decide) rfl rfl rfl ?_
    refine g_iconst d_M_findBefore_42 (x := 0) (by decide) ?_
    refine g_lald (x := σ1.2.1 32 0) d_M_findBefore_43 (by decide) rfl (g_lit (k := 0) (by decide) (by decide)) rfl ?_
    refine g_iload_n d_M_findBefore_44 1 rfl rfl ?_
    refine g_lshr d_M_findBefore_45 ?_
    refine g_lconst d_M_findBefore_46 (x := 1) (by decide) ?_
    refine g_land d_M_findBefore_47 ?_
    refine g_lconst d_M_findBefore_48 (x := 1) (by decide) ?_
    refine g_lcmp_ne (tgt := 84) d_M_findBefore_49 d_M_findBefore_50 rfl (fun hc => ?_) (fun hc => ?_)
    · have h := h.1 hc
      exact h
    · have h := h.2 hc
      refine g_aload_n d_M_findBefore_53 0 rfl rfl ?_
      refine g_getV (x := .int (σ1.1 0 48)) d_M_findBefore_54 fl_M_291 (by decide) rfl rfl rfl ?_
      refine g_if_ne (tgt := 65) d_M_findBefore_57 rfl (fun hc => ?_) (fun hc => ?_)
      · have h := h.1 hc
        exact h
      · have h := h.2 hc
        refine g_aload_n d_M_findBefore_60 0 rfl rfl ?_
        refine g_iload_n d_M_findBefore_61 1 rfl rfl ?_
        refine g_callVv (av := [.int x1]) (rest := []) d_M_findBefore_62 Y_M_spellRing lk_M_301 (by decide) rfl rfl I_M_spellRing rfl (Nat.le_of_ble_eq_true rfl) rfl h (fun σ2 h => ?_)
        exact h
set_option maxRecDepth 20000 in
set_option maxHeartbeats 1000000 in
theorem T_M_findBefore_65 {l : Launch} {v : gs_V} {n : Nat} {post : gs_S → Prop} {σ : gs_S} {x1 : Int32} (h : gM l v lyM 33 me_M_waysFrom n [.ref (v.2.2 0), .int x1] (gs_pI σ 0 48 1) (qL v lyM 33 (fun r1 σ1 => G_M_findBefore_84 l v n post (gs_pL σ1 0 49 ((σ.2.1 0 49) + r1)) x1))) : G_M_findBefore_65 l v n post σ x1 := by
  refine g_aload_n d_M_findBefore_65 0 rfl rfl ?_
  refine g_iconst d_M_findBefore_66 (x := 1) (by decide) ?_
  refine g_putI d_M_findBefore_67 fp_M_291 (by decide) rfl rfl ⟨rfl, rfl⟩ ?_
  refine g_aload_n d_M_findBefore_70 0 rfl rfl ?_
  refine g_dup d_M_findBefore_71 rfl ?_
  refine g_getV (x := .long (σ.2.1 0 49)) d_M_findBefore_72 fl_M_294 (by decide) rfl rfl rfl ?_
  refine g_aload_n d_M_findBefore_75 0 rfl rfl ?_
  refine g_iload_n d_M_findBefore_76 1 rfl rfl ?_
  refine g_callVl (av := [.int x1]) (rest := [.long (σ.2.1 0 49), .ref (v.2.2 0)]) d_M_findBefore_77 Y_M_waysFrom lk_M_304 (by decide) rfl rfl I_M_waysFrom rfl (Nat.le_of_ble_eq_true rfl) rfl h (fun r1 σ1 h => ?_)
  refine g_ladd d_M_findBefore_80 ?_
  refine g_putL d_M_findBefore_81 fp_M_294 (by decide) rfl rfl ?_
  exact h
set_option maxRecDepth 20000 in
set_option maxHeartbeats 1000000 in
theorem T_M_findBefore_84 {l : Launch} {v : gs_V} {n : Nat} {post : gs_S → Prop} {σ : gs_S} {x1 : Int32} (h : G_M_findBefore_25 l v n post σ (x1 + 1)) : G_M_findBefore_84 l v n post σ x1 := by
  refine g_iinc (L' := [(1, .int (x1 + 1)), (0, .ref (v.2.2 0))]) d_M_findBefore_84 1 rfl (by rfl) (by decide) rfl ?_
  refine g_goto (tgt := 25) d_M_findBefore_87 rfl ?_
  exact g_sub [1, 0] rfl h
theorem E_M_findBefore {l : Launch} {v : gs_V} {n : Nat} {post : gs_S → Prop} {σ : gs_S} (h : G_M_findBefore_0 l v n post σ) : gM l v lyM 33 me_M_findBefore (n + 1) [.ref (v.2.2 0)] σ (qV v lyM 33 post) := gM_of (by decide +kernel) (Nat.le_of_ble_eq_true rfl) h
/-! LineRulesModel.findInverse -/
theorem d_M_findInverse_0 : decode me_M_findInverse.2.1 0 = .ok (.aload_n 0, 1) := by decide +kernel
theorem d_M_findInverse_1 : decode me_M_findInverse.2.1 1 = .ok (.getfield 200, 3) := by decide +kernel
theorem d_M_findInverse_4 : decode me_M_findInverse.2.1 4 = .ok (.ifCond .eq 4, 3) := by decide +kernel
theorem d_M_findInverse_7 : decode me_M_findInverse.2.1 7 = .ok (.return_, 1) := by decide +kernel
theorem d_M_findInverse_8 : decode me_M_findInverse.2.1 8 = .ok (.aload_n 0, 1) := by decide +kernel
theorem d_M_findInverse_9 : decode me_M_findInverse.2.1 9 = .ok (.iconst 1, 1) := by decide +kernel
theorem d_M_findInverse_10 : decode me_M_findInverse.2.1 10 = .ok (.putfield 200, 3) := by decide +kernel
theorem d_M_findInverse_13 : decode me_M_findInverse.2.1 13 = .ok (.aload_n 0, 1) := by decide +kernel
theorem d_M_findInverse_14 : decode me_M_findInverse.2.1 14 = .ok (.iconst 0, 1) := by decide +kernel
theorem d_M_findInverse_15 : decode me_M_findInverse.2.1 15 = .ok (.putfield 236, 3) := by decide +kernel
theorem d_M_findInverse_18 : decode me_M_findInverse.2.1 18 = .ok (.aload_n 0, 1) := by decide +kernel
theorem d_M_findInverse_19 : decode me_M_findInverse.2.1 19 = .ok (.iconst 0, 1) := by decide +kernel
theorem d_M_findInverse_20 : decode me_M_findInverse.2.1 20 = .ok (.putfield 239, 3) := by decide +kernel
theorem d_M_findInverse_23 : decode me_M_findInverse.2.1 23 = .ok (.iconst 1, 1) := by decide +kernel
theorem d_M_findInverse_24 : decode me_M_findInverse.2.1 24 = .ok (.istore_n 1, 1) := by decide +kernel
theorem d_M_findInverse_25 : decode me_M_findInverse.2.1 25 = .ok (.iload_n 1, 1) := by decide +kernel
theorem d_M_findInverse_26 : decode me_M_findInverse.2.1 26 = .ok (.iconst 5, 1) := by decide +kernel
theorem d_M_findInverse_27 : decode me_M_findInverse.2.1 27 = .ok (.if_icmp .gt 49, 3) := by decide +kernel
theorem d_M_findInverse_30 : decode me_M_findInverse.2.1 30 = .ok (.iconst 0, 1) := by decide +kernel
theorem d_M_findInverse_31 : decode me_M_findInverse.2.1 31 = .ok (.istore_n 2, 1) := by decide +kernel
theorem d_M_findInverse_32 : decode me_M_findInverse.2.1 32 = .ok (.iload_n 2, 1) := by decide +kernel
theorem d_M_findInverse_33 : decode me_M_findInverse.2.1 33 = .ok (.iload_n 1, 1) := by decide +kernel
theorem d_M_findInverse_34 : decode me_M_findInverse.2.1 34 = .ok (.aload_n 0, 1) := by decide +kernel
theorem d_M_findInverse_35 : decode me_M_findInverse.2.1 35 = .ok (.getfield 182, 3) := by decide +kernel
theorem d_M_findInverse_38 : decode me_M_findInverse.2.1 38 = .ok (.iadd, 1) := by decide +kernel
theorem d_M_findInverse_39 : decode me_M_findInverse.2.1 39 = .ok (.iconst 2, 1) := by decide +kernel
theorem d_M_findInverse_40 : decode me_M_findInverse.2.1 40 = .ok (.isub, 1) := by decide +kernel
theorem d_M_findInverse_41 : decode me_M_findInverse.2.1 41 = .ok (.if_icmp .gt 29, 3) := by decide +kernel
theorem d_M_findInverse_44 : decode me_M_findInverse.2.1 44 = .ok (.aload_n 0, 1) := by decide +kernel
theorem d_M_findInverse_45 : decode me_M_findInverse.2.1 45 = .ok (.iload_n 1, 1) := by decide +kernel
theorem d_M_findInverse_46 : decode me_M_findInverse.2.1 46 = .ok (.iload_n 2, 1) := by decide +kernel
theorem d_M_findInverse_47 : decode me_M_findInverse.2.1 47 = .ok (.invokevirtual 242, 3) := by decide +kernel
theorem d_M_findInverse_50 : decode me_M_findInverse.2.1 50 = .ok (.ifCond .eq 14, 3) := by decide +kernel
theorem d_M_findInverse_53 : decode me_M_findInverse.2.1 53 = .ok (.aload_n 0, 1) := by decide +kernel
theorem d_M_findInverse_54 : decode me_M_findInverse.2.1 54 = .ok (.iload_n 1, 1) := by decide +kernel
theorem d_M_findInverse_55 : decode me_M_findInverse.2.1 55 = .ok (.putfield 236, 3) := by decide +kernel
theorem d_M_findInverse_58 : decode me_M_findInverse.2.1 58 = .ok (.aload_n 0, 1) := by decide +kernel
theorem d_M_findInverse_59 : decode me_M_findInverse.2.1 59 = .ok (.iload_n 2, 1) := by decide +kernel
theorem d_M_findInverse_60 : decode me_M_findInverse.2.1 60 = .ok (.putfield 239, 3) := by decide +kernel
theorem d_M_findInverse_63 : decode me_M_findInverse.2.1 63 = .ok (.return_, 1) := by decide +kernel
theorem d_M_findInverse_64 : decode me_M_findInverse.2.1 64 = .ok (.iinc 2 1, 3) := by decide +kernel
theorem d_M_findInverse_67 : decode me_M_findInverse.2.1 67 = .ok (.goto (-35), 3) := by decide +kernel
theorem d_M_findInverse_70 : decode me_M_findInverse.2.1 70 = .ok (.iinc 1 1, 3) := by decide +kernel
theorem d_M_findInverse_73 : decode me_M_findInverse.2.1 73 = .ok (.goto (-48), 3) := by decide +kernel
theorem d_M_findInverse_76 : decode me_M_findInverse.2.1 76 = .ok (.return_, 1) := by decide +kernel
abbrev G_M_findInverse_0 (l : Launch) (v : gs_V) (n : Nat) (post : gs_S → Prop) (σ : gs_S) : Prop := gG l v lyM 33 me_M_findInverse n (qV v lyM 33 post) 0 [(0, .ref (v.2.2 0))] [] σ
abbrev G_M_findInverse_25 (l : Launch) (v : gs_V) (n : Nat) (post : gs_S → Prop) (σ : gs_S) (x1 : Int32) : Prop := gG l v lyM 33 me_M_findInverse n (qV v lyM 33 post) 25 [(0, .ref (v.2.2 0)), (1, .int x1)] [] σ
abbrev G_M_findInverse_32 (l : Launch) (v : gs_V) (n : Nat) (post : gs_S → Prop) (σ : gs_S) (x1 : Int32) (x2 : Int32) : Prop := gG l v lyM 33 me_M_findInverse n (qV v lyM 33 post) 32 [(0, .ref (v.2.2 0)), (1, .int x1), (2, .int x2)] [] σ
set_option maxRecDepth 20000 in
set_option maxHeartbeats 1000000 in
theorem T_M_findInverse_0 {l : Launch} {v : gs_V} {n : Nat} {post : gs_S → Prop} {σ : gs_S} (h : (((σ.1 0 31) = 0 → G_M_findInverse_25 l v n post (gs_pI (gs_pI (gs_pI σ 0 31 1) 0 32 0) 0 33 0) 1) ∧ (¬ (σ.1 0 31) = 0 → post σ))) : G_M_findInverse_0 l v n post σ := by
  refine g_aload_n d_M_findInverse_0 0 rfl rfl ?_
  refine g_getV (x := .int (σ.1 0 31)) d_M_findInverse_1 fl_M_200 (by decide) rfl rfl rfl ?_
  refine g_if_eq (tgt := 8) d_M_findInverse_4 rfl (fun hc => ?_) (fun hc => ?_)
  · have h := h.1 hc
    refine g_aload_n d_M_findInverse_8 0 rfl rfl ?_
    refine g_iconst d_M_findInverse_9 (x := 1) (by decide) ?_
    refine g_putI d_M_findInverse_10 fp_M_200 (by decide) rfl rfl ⟨rfl, rfl⟩ ?_
    refine g_aload_n d_M_findInverse_13 0 rfl rfl ?_
    refine g_iconst d_M_findInverse_14 (x := 0) (by decide) ?_
    refine g_putI d_M_findInverse_15 fp_M_236 (by decide) rfl rfl ⟨rfl, rfl⟩ ?_
    refine g_aload_n d_M_findInverse_18 0 rfl rfl ?_
    refine g_iconst d_M_findInverse_19 (x := 0) (by decide) ?_
    refine g_putI d_M_findInverse_20 fp_M_239 (by decide) rfl rfl ⟨rfl, rfl⟩ ?_
    refine g_iconst d_M_findInverse_23 (x := 1) (by decide) ?_
    refine g_istore_n (L' := [(1, .int 1), (0, .ref (v.2.2 0))]) d_M_findInverse_24 rfl (by decide) rfl ?_
    exact g_sub [1, 0] rfl h
  · have h := h.2 hc
    exact g_vret d_M_findInverse_7 rfl h
set_option maxRecDepth 20000 in
set_option maxHeartbeats 1000000 in
theorem T_M_findInverse_25 {l : Launch} {v : gs_V} {n : Nat} {post : gs_S → Prop} {σ : gs_S} {x1 : Int32} (h : ((5 < x1 → post σ) ∧ (¬ 5 < x1 → G_M_findInverse_32 l v n post σ x1 0))) : G_M_findInverse_25 l v n post σ x1 := by
  refine g_iload_n d_M_findInverse_25 1 rfl rfl ?_
  refine g_iconst d_M_findInverse_26 (x := 5) (by decide) ?_
  refine g_icmp_gt (tgt := 76) d_M_findInverse_27 rfl (fun hc => ?_) (fun hc => ?_)
  · have h := h.1 hc
    exact g_vret d_M_findInverse_76 rfl h
  · have h := h.2 hc
    refine g_iconst d_M_findInverse_30 (x := 0) (by decide) ?_
    refine g_istore_n (L' := [(2, .int 0), (0, .ref (v.2.2 0)), (1, .int x1)]) d_M_findInverse_31 rfl (by decide) rfl ?_
    exact g_sub [1, 2, 0] rfl h
set_option maxRecDepth 20000 in
set_option maxHeartbeats 1000000 in
theorem T_M_findInverse_32 {l : Launch} {v : gs_V} {n : Nat} {post : gs_S → Prop} {σ : gs_S} {x1 : Int32} {x2 : Int32} (h : ((((x1 + (σ.1 0 3)) - 2) < x2 → G_M_findInverse_25 l v n post σ (x1 + 1)) ∧ (¬ ((x1 + (σ.1 0 3)) - 2) < x2 → gM l v lyM 33 me_M_tells n [.ref (v.2.2 0), .int x1, .int x2] σ (qI v lyM 33 (fun r1 σ1 => ((r1 = 0 → G_M_findInverse_32 l v n post σ1 x1 (x2 + 1)) ∧ (¬ r1 = 0 → post (gs_pI (gs_pI σ1 0 32 x1) 0 33 x2)))))))) : G_M_findInverse_32 l v n post σ x1 x2 := by
  refine g_iload_n d_M_findInverse_32 2 rfl rfl ?_
  refine g_iload_n d_M_findInverse_33 1 rfl rfl ?_
  refine g_aload_n d_M_findInverse_34 0 rfl rfl ?_
  refine g_getV (x := .int (σ.1 0 3)) d_M_findInverse_35 fl_M_182 (by decide) rfl rfl rfl ?_
  refine g_iadd d_M_findInverse_38 ?_
  refine g_iconst d_M_findInverse_39 (x := 2) (by decide) ?_
  refine g_isub d_M_findInverse_40 ?_
  refine g_icmp_gt (tgt := 70) d_M_findInverse_41 rfl (fun hc => ?_) (fun hc => ?_)
  · have h := h.1 hc
    refine g_iinc (L' := [(1, .int (x1 + 1)), (0, .ref (v.2.2 0)), (2, .int x2)]) d_M_findInverse_70 1 rfl (by rfl) (by decide) rfl ?_
    refine g_goto (tgt := 25) d_M_findInverse_73 rfl ?_
    exact g_sub [1, 0] rfl h
  · have h := h.2 hc
    refine g_aload_n d_M_findInverse_44 0 rfl rfl ?_
    refine g_iload_n d_M_findInverse_45 1 rfl rfl ?_
    refine g_iload_n d_M_findInverse_46 2 rfl rfl ?_
    refine g_callVi (av := [.int x1, .int x2]) (rest := []) d_M_findInverse_47 Y_M_tells lk_M_242 (by decide) rfl rfl I_M_tells rfl (Nat.le_of_ble_eq_true rfl) rfl h (fun r1 σ1 h => ?_)
    refine g_if_eq (tgt := 64) d_M_findInverse_50 rfl (fun hc => ?_) (fun hc => ?_)
    · have h := h.1 hc
      refine g_iinc (L' := [(2, .int (x2 + 1)), (0, .ref (v.2.2 0)), (1, .int x1)]) d_M_findInverse_64 2 rfl (by rfl) (by decide) rfl ?_
      refine g_goto (tgt := 32) d_M_findInverse_67 rfl ?_
      exact g_sub [1, 2, 0] rfl h
    · have h := h.2 hc
      refine g_aload_n d_M_findInverse_53 0 rfl rfl ?_
      refine g_iload_n d_M_findInverse_54 1 rfl rfl ?_
      refine g_putI d_M_findInverse_55 fp_M_236 (by decide) rfl rfl ⟨rfl, rfl⟩ ?_
      refine g_aload_n d_M_findInverse_58 0 rfl rfl ?_
      refine g_iload_n d_M_findInverse_59 2 rfl rfl ?_
      refine g_putI d_M_findInverse_60 fp_M_239 (by decide) rfl rfl ⟨rfl, rfl⟩ ?_
      exact g_vret d_M_findInverse_63 rfl h
theorem E_M_findInverse {l : Launch} {v : gs_V} {n : Nat} {post : gs_S → Prop} {σ : gs_S} (h : G_M_findInverse_0 l v n post σ) : gM l v lyM 33 me_M_findInverse (n + 1) [.ref (v.2.2 0)] σ (qV v lyM 33 post) := gM_of (by decide +kernel) (Nat.le_of_ble_eq_true rfl) h
