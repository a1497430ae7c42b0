/-! LineRules$Text.append -/
theorem d_T_append_0 : decode me_T_append.2.1 0 = .ok (.iload_n 1, 1) := by decide +kernel
theorem d_T_append_1 : decode me_T_append.2.1 1 = .ok (.bipush 32, 2) := by decide +kernel
theorem d_T_append_3 : decode me_T_append.2.1 3 = .ok (.if_icmp .lt 9, 3) := by decide +kernel
theorem d_T_append_6 : decode me_T_append.2.1 6 = .ok (.iload_n 1, 1) := by decide +kernel
theorem d_T_append_7 : decode me_T_append.2.1 7 = .ok (.bipush 126, 2) := by decide +kernel
theorem d_T_append_9 : decode me_T_append.2.1 9 = .ok (.if_icmp .le 5, 3) := by decide +kernel
theorem d_T_append_12 : decode me_T_append.2.1 12 = .ok (.iconst (-1), 1) := by decide +kernel
theorem d_T_append_13 : decode me_T_append.2.1 13 = .ok (.ireturn, 1) := by decide +kernel
theorem d_T_append_14 : decode me_T_append.2.1 14 = .ok (.aload_n 0, 1) := by decide +kernel
theorem d_T_append_15 : decode me_T_append.2.1 15 = .ok (.getfield 19, 3) := by decide +kernel
theorem d_T_append_18 : decode me_T_append.2.1 18 = .ok (.bipush 64, 2) := by decide +kernel
theorem d_T_append_20 : decode me_T_append.2.1 20 = .ok (.if_icmp .lt 6, 3) := by decide +kernel
theorem d_T_append_23 : decode me_T_append.2.1 23 = .ok (.bipush (-2), 2) := by decide +kernel
theorem d_T_append_25 : decode me_T_append.2.1 25 = .ok (.ireturn, 1) := by decide +kernel
theorem d_T_append_26 : decode me_T_append.2.1 26 = .ok (.aload_n 0, 1) := by decide +kernel
theorem d_T_append_27 : decode me_T_append.2.1 27 = .ok (.getfield 9, 3) := by decide +kernel
theorem d_T_append_30 : decode me_T_append.2.1 30 = .ok (.aload_n 0, 1) := by decide +kernel
theorem d_T_append_31 : decode me_T_append.2.1 31 = .ok (.getfield 19, 3) := by decide +kernel
theorem d_T_append_34 : decode me_T_append.2.1 34 = .ok (.iload_n 1, 1) := by decide +kernel
theorem d_T_append_35 : decode me_T_append.2.1 35 = .ok (.i2c, 1) := by decide +kernel
theorem d_T_append_36 : decode me_T_append.2.1 36 = .ok (.castore, 1) := by decide +kernel
theorem d_T_append_37 : decode me_T_append.2.1 37 = .ok (.aload_n 0, 1) := by decide +kernel
theorem d_T_append_38 : decode me_T_append.2.1 38 = .ok (.dup, 1) := by decide +kernel
theorem d_T_append_39 : decode me_T_append.2.1 39 = .ok (.getfield 19, 3) := by decide +kernel
theorem d_T_append_42 : decode me_T_append.2.1 42 = .ok (.iconst 1, 1) := by decide +kernel
theorem d_T_append_43 : decode me_T_append.2.1 43 = .ok (.iadd, 1) := by decide +kernel
theorem d_T_append_44 : decode me_T_append.2.1 44 = .ok (.putfield 19, 3) := by decide +kernel
theorem d_T_append_47 : decode me_T_append.2.1 47 = .ok (.aload_n 0, 1) := by decide +kernel
theorem d_T_append_48 : decode me_T_append.2.1 48 = .ok (.getfield 19, 3) := by decide +kernel
theorem d_T_append_51 : decode me_T_append.2.1 51 = .ok (.ireturn, 1) := by decide +kernel
abbrev G_T_append_0 (l : Launch) (v : gs_V) (n : Nat) (post : Int32 → gs_S → Prop) (σ : gs_S) (x1 : Int32) : Prop := gG l v lyC 42 me_T_append n (qI v lyC 42 post) 0 [(0, .ref (v.2.2 1)), (1, .int x1)] [] σ
abbrev G_T_append_12 (l : Launch) (v : gs_V) (n : Nat) (post : Int32 → gs_S → Prop) (σ : gs_S) : Prop := gG l v lyC 42 me_T_append n (qI v lyC 42 post) 12 [] [] σ
set_option maxRecDepth 20000 in
set_option maxHeartbeats 1000000 in
theorem T_T_append_0 {l : Launch} {v : gs_V} {n : Nat} {post : Int32 → gs_S → Prop} {σ : gs_S} {x1 : Int32} (h : ((x1 < 32 → G_T_append_12 l v n post σ) ∧ (¬ x1 < 32 → ((x1 ≤ 126 → (((σ.1 1 2) < 64 → vp_in (σ.1 1 2) 64 ∧ post ((σ.1 1 2) + 1) (gs_pI (gs_pI σ 2 ((σ.1 1 2).toNatClampNeg) (vp_nar .char ((x1.toUInt32 % 65536).toInt32))) 1 2 ((σ.1 1 2) + 1))) ∧ (¬ (σ.1 1 2) < 64 → post ((-2)) σ))) ∧ (¬ x1 ≤ 126 → G_T_append_12 l v n post σ))))) : G_T_append_0 l v n post σ x1 := by
  refine g_iload_n d_T_append_0 1 rfl rfl ?_
  refine g_bipush d_T_append_1 (x := 32) (by decide) ?_
  refine g_icmp_lt (tgt := 12) d_T_append_3 rfl (fun hc => ?_) (fun hc => ?_)
  · have h := h.1 hc
    exact g_sub [] rfl h
  · have h := h.2 hc
    refine g_iload_n d_T_append_6 1 rfl rfl ?_
    refine g_bipush d_T_append_7 (x := 126) (by decide) ?_
    refine g_icmp_le (tgt := 14) d_T_append_9 rfl (fun hc => ?_) (fun hc => ?_)
    · have h := h.1 hc
      refine g_aload_n d_T_append_14 0 rfl rfl ?_
      refine g_getV (x := .int (σ.1 1 2)) d_T_append_15 fl_T_19 (by decide) rfl rfl rfl ?_
      refine g_bipush d_T_append_18 (x := 64) (by decide) ?_
      refine g_icmp_lt (tgt := 26) d_T_append_20 rfl (fun hc => ?_) (fun hc => ?_)
      · have h := h.1 hc
        refine g_aload_n d_T_append_26 0 rfl rfl ?_
        refine g_getV (x := .ref (v.2.2 2)) d_T_append_27 fl_T_9 (by decide) rfl rfl rfl ?_
        refine g_aload_n d_T_append_30 0 rfl rfl ?_
        refine g_getV (x := .int (σ.1 1 2)) d_T_append_31 fl_T_19 (by decide) rfl rfl rfl ?_
        refine g_iload_n d_T_append_34 1 rfl rfl ?_
        refine g_i2c d_T_append_35 ?_
        have hi1 := h.1
        have h := h.2
        refine g_cast d_T_append_36 (by decide) rfl hi1 ?_
        refine g_aload_n d_T_append_37 0 rfl rfl ?_
        refine g_dup d_T_append_38 rfl ?_
        refine g_getV (x := .int (σ.1 1 2)) d_T_append_39 fl_T_19 (by decide) rfl rfl rfl ?_
        refine g_iconst d_T_append_42 (x := 1) (by decide) ?_
        refine g_iadd d_T_append_43 ?_
        refine g_putI d_T_append_44 fp_T_19 (by decide) rfl rfl ⟨rfl, rfl⟩ ?_
        refine g_aload_n d_T_append_47 0 rfl rfl ?_
        refine g_getV (x := .int ((σ.1 1 2) + 1)) d_T_append_48 fl_T_19 (by decide) rfl rfl rfl ?_
        exact g_iret d_T_append_51 rfl h
      · have h := h.2 hc
        refine g_bipush d_T_append_23 (x := (-2)) (by decide) ?_
        exact g_iret d_T_append_25 rfl h
    · have h := h.2 hc
      exact g_sub [] rfl h
set_option maxRecDepth 20000 in
set_option maxHeartbeats 1000000 in
theorem T_T_append_12 {l : Launch} {v : gs_V} {n : Nat} {post : Int32 → gs_S → Prop} {σ : gs_S} (h : post ((-1)) σ) : G_T_append_12 l v n post σ := by
  refine g_iconst d_T_append_12 (x := (-1)) (by decide) ?_
  exact g_iret d_T_append_13 rfl h
theorem E_T_append {l : Launch} {v : gs_V} {n : Nat} {post : Int32 → gs_S → Prop} {σ : gs_S} {x1 : Int32} (h : G_T_append_0 l v n post σ x1) : gM l v lyC 42 me_T_append (n + 1) [.ref (v.2.2 1), .int x1] σ (qI v lyC 42 post) := gM_of (by decide +kernel) (Nat.le_of_ble_eq_true rfl) h
/-! LineRules$Text.fault -/
theorem d_T_fault_0 : decode me_T_fault.2.1 0 = .ok (.iconst 0, 1) := by decide +kernel
theorem d_T_fault_1 : decode me_T_fault.2.1 1 = .ok (.istore_n 1, 1) := by decide +kernel
theorem d_T_fault_2 : decode me_T_fault.2.1 2 = .ok (.iload_n 1, 1) := by decide +kernel
theorem d_T_fault_3 : decode me_T_fault.2.1 3 = .ok (.iconst 3, 1) := by decide +kernel
theorem d_T_fault_4 : decode me_T_fault.2.1 4 = .ok (.if_icmp .ge 33, 3) := by decide +kernel
theorem d_T_fault_7 : decode me_T_fault.2.1 7 = .ok (.iload_n 1, 1) := by decide +kernel
theorem d_T_fault_8 : decode me_T_fault.2.1 8 = .ok (.aload_n 0, 1) := by decide +kernel
theorem d_T_fault_9 : decode me_T_fault.2.1 9 = .ok (.getfield 19, 3) := by decide +kernel
theorem d_T_fault_12 : decode me_T_fault.2.1 12 = .ok (.if_icmp .ge 17, 3) := by decide +kernel
theorem d_T_fault_15 : decode me_T_fault.2.1 15 = .ok (.aload_n 0, 1) := by decide +kernel
theorem d_T_fault_16 : decode me_T_fault.2.1 16 = .ok (.iload_n 1, 1) := by decide +kernel
theorem d_T_fault_17 : decode me_T_fault.2.1 17 = .ok (.aload_n 0, 1) := by decide +kernel
theorem d_T_fault_18 : decode me_T_fault.2.1 18 = .ok (.getfield 9, 3) := by decide +kernel
theorem d_T_fault_21 : decode me_T_fault.2.1 21 = .ok (.iload_n 1, 1) := by decide +kernel
theorem d_T_fault_22 : decode me_T_fault.2.1 22 = .ok (.caload, 1) := by decide +kernel
theorem d_T_fault_23 : decode me_T_fault.2.1 23 = .ok (.invokevirtual 51, 3) := by decide +kernel
theorem d_T_fault_26 : decode me_T_fault.2.1 26 = .ok (.ifCond .ne 5, 3) := by decide +kernel
theorem d_T_fault_29 : decode me_T_fault.2.1 29 = .ok (.iload_n 1, 1) := by decide +kernel
theorem d_T_fault_30 : decode me_T_fault.2.1 30 = .ok (.ireturn, 1) := by decide +kernel
theorem d_T_fault_31 : decode me_T_fault.2.1 31 = .ok (.iinc 1 1, 3) := by decide +kernel
theorem d_T_fault_34 : decode me_T_fault.2.1 34 = .ok (.goto (-32), 3) := by decide +kernel
theorem d_T_fault_37 : decode me_T_fault.2.1 37 = .ok (.aload_n 0, 1) := by decide +kernel
theorem d_T_fault_38 : decode me_T_fault.2.1 38 = .ok (.aload_n 0, 1) := by decide +kernel
theorem d_T_fault_39 : decode me_T_fault.2.1 39 = .ok (.getfield 9, 3) := by decide +kernel
theorem d_T_fault_42 : decode me_T_fault.2.1 42 = .ok (.iconst 0, 1) := by decide +kernel
theorem d_T_fault_43 : decode me_T_fault.2.1 43 = .ok (.caload, 1) := by decide +kernel
theorem d_T_fault_44 : decode me_T_fault.2.1 44 = .ok (.bipush 48, 2) := by decide +kernel
theorem d_T_fault_46 : decode me_T_fault.2.1 46 = .ok (.isub, 1) := by decide +kernel
theorem d_T_fault_47 : decode me_T_fault.2.1 47 = .ok (.putfield 23, 3) := by decide +kernel
theorem d_T_fault_50 : decode me_T_fault.2.1 50 = .ok (.aload_n 0, 1) := by decide +kernel
theorem d_T_fault_51 : decode me_T_fault.2.1 51 = .ok (.aload_n 0, 1) := by decide +kernel
theorem d_T_fault_52 : decode me_T_fault.2.1 52 = .ok (.getfield 9, 3) := by decide +kernel
theorem d_T_fault_55 : decode me_T_fault.2.1 55 = .ok (.iconst 1, 1) := by decide +kernel
theorem d_T_fault_56 : decode me_T_fault.2.1 56 = .ok (.caload, 1) := by decide +kernel
theorem d_T_fault_57 : decode me_T_fault.2.1 57 = .ok (.bipush 48, 2) := by decide +kernel
theorem d_T_fault_59 : decode me_T_fault.2.1 59 = .ok (.isub, 1) := by decide +kernel
theorem d_T_fault_60 : decode me_T_fault.2.1 60 = .ok (.putfield 26, 3) := by decide +kernel
theorem d_T_fault_63 : decode me_T_fault.2.1 63 = .ok (.aload_n 0, 1) := by decide +kernel
theorem d_T_fault_64 : decode me_T_fault.2.1 64 = .ok (.aload_n 0, 1) := by decide +kernel
theorem d_T_fault_65 : decode me_T_fault.2.1 65 = .ok (.getfield 9, 3) := by decide +kernel
theorem d_T_fault_68 : decode me_T_fault.2.1 68 = .ok (.iconst 2, 1) := by decide +kernel
theorem d_T_fault_69 : decode me_T_fault.2.1 69 = .ok (.caload, 1) := by decide +kernel
theorem d_T_fault_70 : decode me_T_fault.2.1 70 = .ok (.putfield 29, 3) := by decide +kernel
theorem d_T_fault_73 : decode me_T_fault.2.1 73 = .ok (.aload_n 0, 1) := by decide +kernel
theorem d_T_fault_74 : decode me_T_fault.2.1 74 = .ok (.getfield 29, 3) := by decide +kernel
theorem d_T_fault_77 : decode me_T_fault.2.1 77 = .ok (.lookupswitch 61 #[(83, 43), (84, 27)], 27) := by decide +kernel
theorem d_T_fault_104 : decode me_T_fault.2.1 104 = .ok (.aload_n 0, 1) := by decide +kernel
theorem d_T_fault_105 : decode me_T_fault.2.1 105 = .ok (.aload_n 0, 1) := by decide +kernel
theorem d_T_fault_106 : decode me_T_fault.2.1 106 = .ok (.getfield 23, 3) := by decide +kernel
theorem d_T_fault_109 : decode me_T_fault.2.1 109 = .ok (.aload_n 0, 1) := by decide +kernel
theorem d_T_fault_110 : decode me_T_fault.2.1 110 = .ok (.getfield 26, 3) := by decide +kernel
theorem d_T_fault_113 : decode me_T_fault.2.1 113 = .ok (.invokestatic 55, 3) := by decide +kernel
theorem d_T_fault_116 : decode me_T_fault.2.1 116 = .ok (.invokevirtual 59, 3) := by decide +kernel
theorem d_T_fault_119 : decode me_T_fault.2.1 119 = .ok (.ireturn, 1) := by decide +kernel
theorem d_T_fault_120 : decode me_T_fault.2.1 120 = .ok (.aload_n 0, 1) := by decide +kernel
theorem d_T_fault_121 : decode me_T_fault.2.1 121 = .ok (.aload_n 0, 1) := by decide +kernel
theorem d_T_fault_122 : decode me_T_fault.2.1 122 = .ok (.getfield 26, 3) := by decide +kernel
theorem d_T_fault_125 : decode me_T_fault.2.1 125 = .ok (.aload_n 0, 1) := by decide +kernel
theorem d_T_fault_126 : decode me_T_fault.2.1 126 = .ok (.getfield 23, 3) := by decide +kernel
theorem d_T_fault_129 : decode me_T_fault.2.1 129 = .ok (.iconst 1, 1) := by decide +kernel
theorem d_T_fault_130 : decode me_T_fault.2.1 130 = .ok (.isub, 1) := by decide +kernel
theorem d_T_fault_131 : decode me_T_fault.2.1 131 = .ok (.imul, 1) := by decide +kernel
theorem d_T_fault_132 : decode me_T_fault.2.1 132 = .ok (.iconst 1, 1) := by decide +kernel
theorem d_T_fault_133 : decode me_T_fault.2.1 133 = .ok (.iadd, 1) := by decide +kernel
theorem d_T_fault_134 : decode me_T_fault.2.1 134 = .ok (.invokevirtual 59, 3) := by decide +kernel
theorem d_T_fault_137 : decode me_T_fault.2.1 137 = .ok (.ireturn, 1) := by decide +kernel
theorem d_T_fault_138 : decode me_T_fault.2.1 138 = .ok (.aload_n 0, 1) := by decide +kernel
theorem d_T_fault_139 : decode me_T_fault.2.1 139 = .ok (.iconst 0, 1) := by decide +kernel
theorem d_T_fault_140 : decode me_T_fault.2.1 140 = .ok (.invokevirtual 63, 3) := by decide +kernel
theorem d_T_fault_143 : decode me_T_fault.2.1 143 = .ok (.pop, 1) := by decide +kernel
theorem d_T_fault_144 : decode me_T_fault.2.1 144 = .ok (.aload_n 0, 1) := by decide +kernel
theorem d_T_fault_145 : decode me_T_fault.2.1 145 = .ok (.getfield 39, 3) := by decide +kernel
theorem d_T_fault_148 : decode me_T_fault.2.1 148 = .ok (.ifCond .ne 14, 3) := by decide +kernel
theorem d_T_fault_151 : decode me_T_fault.2.1 151 = .ok (.aload_n 0, 1) := by decide +kernel
theorem d_T_fault_152 : decode me_T_fault.2.1 152 = .ok (.getfield 33, 3) := by decide +kernel
theorem d_T_fault_155 : decode me_T_fault.2.1 155 = .ok (.aload_n 0, 1) := by decide +kernel
theorem d_T_fault_156 : decode me_T_fault.2.1 156 = .ok (.getfield 19, 3) := by decide +kernel
theorem d_T_fault_159 : decode me_T_fault.2.1 159 = .ok (.if_icmp .ge 10, 3) := by decide +kernel
theorem d_T_fault_162 : decode me_T_fault.2.1 162 = .ok (.aload_n 0, 1) := by decide +kernel
theorem d_T_fault_163 : decode me_T_fault.2.1 163 = .ok (.getfield 33, 3) := by decide +kernel
theorem d_T_fault_166 : decode me_T_fault.2.1 166 = .ok (.goto 4, 3) := by decide +kernel
theorem d_T_fault_169 : decode me_T_fault.2.1 169 = .ok (.iconst (-1), 1) := by decide +kernel
theorem d_T_fault_170 : decode me_T_fault.2.1 170 = .ok (.ireturn, 1) := by decide +kernel
abbrev G_T_fault_0 (l : Launch) (v : gs_V) (n : Nat) (post : Int32 → gs_S → Prop) (σ : gs_S) : Prop := gG l v lyC 42 me_T_fault n (qI v lyC 42 post) 0 [(0, .ref (v.2.2 1))] [] σ
abbrev G_T_fault_2 (l : Launch) (v : gs_V) (n : Nat) (post : Int32 → gs_S → Prop) (σ : gs_S) (x1 : Int32) : Prop := gG l v lyC 42 me_T_fault n (qI v lyC 42 post) 2 [(0, .ref (v.2.2 1)), (1, .int x1)] [] σ
abbrev G_T_fault_29 (l : Launch) (v : gs_V) (n : Nat) (post : Int32 → gs_S → Prop) (σ : gs_S) (x1 : Int32) : Prop := gG l v lyC 42 me_T_fault n (qI v lyC 42 post) 29 [(1, .int x1)] [] σ
abbrev G_T_fault_162 (l : Launch) (v : gs_V) (n : Nat) (post : Int32 → gs_S → Prop) (σ : gs_S) : Prop := gG l v lyC 42 me_T_fault n (qI v lyC 42 post) 162 [(0, .ref (v.2.2 1))] [] σ
abbrev G_T_fault_170 (l : Launch) (v : gs_V) (n : Nat) (post : Int32 → gs_S → Prop) (σ : gs_S) (s0 : Int32) : Prop := gG l v lyC 42 me_T_fault n (qI v lyC 42 post) 170 [] [.int s0] σ
set_option maxRecDepth 20000 in
set_option maxHeartbeats 1000000 in
theorem T_T_fault_0 {l : Launch} {v : gs_V} {n : Nat} {post : Int32 → gs_S → Prop} {σ : gs_S} (h : G_T_fault_2 l v n post σ 0) : G_T_fault_0 l v n post σ := by
  refine g_iconst d_T_fault_0 (x := 0) (by decide) ?_
  refine g_istore_n (L' := [(1, .int 0), (0, .ref (v.2.2 1))]) d_T_fault_1 rfl (by decide) rfl ?_
  exact g_sub [1, 0] rfl h
set_option maxRecDepth 20000 in
set_option maxHeartbeats 1000000 in
theorem T_T_fault_2 {l : Launch} {v : gs_V} {n : Nat} {post : Int32 → gs_S → Prop} {σ : gs_S} {x1 : Int32} (h : ((3 ≤ x1 → (narrow .char (.int (σ.1 2 2)) = .int (σ.1 2 2) ∧ fits .char (.int (σ.1 2 2)) = true) ∧ (((σ.1 2 2) = 83 → gM l v lyC 42 me_T_digitsFault n [.ref (v.2.2 1), .int ((((σ.1 2 1) - 48) * (((σ.1 2 0) - 48) - 1)) + 1)] (gs_pI (gs_pI (gs_pI σ 1 3 ((σ.1 2 0) - 48)) 1 4 ((σ.1 2 1) - 48)) 1 5 (σ.1 2 2)) (qI v lyC 42 (fun r1 σ1 => post r1 σ1))) ∧ ((σ.1 2 2) = 84 → gM l v lyC 42 me_A_power n [.int ((σ.1 2 0) - 48), .int ((σ.1 2 1) - 48)] (gs_pI (gs_pI (gs_pI σ 1 3 ((σ.1 2 0) - 48)) 1 4 ((σ.1 2 1) - 48)) 1 5 (σ.1 2 2)) (qI v lyC 42 (fun r2 σ2 => gM l v lyC 42 me_T_digitsFault n [.ref (v.2.2 1), .int r2] σ2 (qI v lyC 42 (fun r3 σ3 => post r3 σ3))))) ∧ (¬ (σ.1 2 2) = 83 → ¬ (σ.1 2 2) = 84 → gM l v lyC 42 me_T_valueFor n [.ref (v.2.2 1), .int 0] (gs_pI (gs_pI (gs_pI σ 1 3 ((σ.1 2 0) - 48)) 1 4 ((σ.1 2 1) - 48)) 1 5 (σ.1 2 2)) (qI v lyC 42 (fun r4 σ4 => ((¬ (σ4.1 1 8) = 0 → G_T_fault_162 l v n post σ4) ∧ ((σ4.1 1 8) = 0 → (((σ4.1 1 2) ≤ (σ4.1 1 6) → G_T_fault_170 l v n post σ4 ((-1))) ∧ (¬ (σ4.1 1 2) ≤ (σ4.1 1 6) → G_T_fault_162 l v n post σ4))))))))) ∧ (¬ 3 ≤ x1 → (((σ.1 1 2) ≤ x1 → G_T_fault_29 l v n post σ x1) ∧ (¬ (σ.1 1 2) ≤ x1 → vp_in x1 64 ∧ gM l v lyC 42 me_T_fitsHead n [.ref (v.2.2 1), .int x1, .int (σ.1 2 x1.toNatClampNeg)] σ (qI v lyC 42 (fun r6 σ6 => ((¬ r6 = 0 → G_T_fault_2 l v n post σ6 (x1 + 1)) ∧ (r6 = 0 → G_T_fault_29 l v n post σ6 x1))))))))) : G_T_fault_2 l v n post σ x1 := by
  refine g_iload_n d_T_fault_2 1 rfl rfl ?_
  refine g_iconst d_T_fault_3 (x := 3) (by decide) ?_
  refine g_icmp_ge (tgt := 37) d_T_fault_4 rfl (fun hc => ?_) (fun hc => ?_)
  · have h := h.1 hc
    refine g_aload_n d_T_fault_37 0 rfl rfl ?_
    refine g_aload_n d_T_fault_38 0 rfl rfl ?_
    refine g_getV (x := .ref (v.2.2 2)) d_T_fault_39 fl_T_9 (by decide) rfl rfl rfl ?_
    refine g_iconst d_T_fault_42 (x := 0) (by decide) ?_
    refine g_cald (x := σ.1 2 0) d_T_fault_43 (by decide) rfl (g_lit (k := 0) (by decide) (by decide)) rfl ?_
    refine g_bipush d_T_fault_44 (x := 48) (by decide) ?_
    refine g_isub d_T_fault_46 ?_
    refine g_putI d_T_fault_47 fp_T_23 (by decide) rfl rfl ⟨rfl, rfl⟩ ?_
    refine g_aload_n d_T_fault_50 0 rfl rfl ?_
    refine g_aload_n d_T_fault_51 0 rfl rfl ?_
    refine g_getV (x := .ref (v.2.2 2)) d_T_fault_52 fl_T_9 (by decide) rfl rfl rfl ?_
    refine g_iconst d_T_fault_55 (x := 1) (by decide) ?_
    refine g_cald (x := σ.1 2 1) d_T_fault_56 (by decide) rfl (g_lit (k := 1) (by decide) (by decide)) rfl ?_
    refine g_bipush d_T_fault_57 (x := 48) (by decide) ?_
    refine g_isub d_T_fault_59 ?_
    refine g_putI d_T_fault_60 fp_T_26 (by decide) rfl rfl ⟨rfl, rfl⟩ ?_
    refine g_aload_n d_T_fault_63 0 rfl rfl ?_
    refine g_aload_n d_T_fault_64 0 rfl rfl ?_
    refine g_getV (x := .ref (v.2.2 2)) d_T_fault_65 fl_T_9 (by decide) rfl rfl rfl ?_
    refine g_iconst d_T_fault_68 (x := 2) (by decide) ?_
    refine g_cald (x := σ.1 2 2) d_T_fault_69 (by decide) rfl (g_lit (k := 2) (by decide) (by decide)) rfl ?_
    have hnf := h.1
    have h := h.2
    refine g_putI d_T_fault_70 fp_T_29 (by decide) rfl rfl hnf ?_
    refine g_aload_n d_T_fault_73 0 rfl rfl ?_
    refine g_getV (x := .int (σ.1 2 2)) d_T_fault_74 fl_T_29 (by decide) rfl rfl rfl ?_
    by_cases hk0 : (σ.1 2 2) = 83
    · refine g_lookup (tgt := 120) d_T_fault_77 (by decide +kernel) (by rw [hk0] <;> decide +kernel) rfl ?_
      have h := h.1 hk0
      refine g_aload_n d_T_fault_120 0 rfl rfl ?_
      refine g_aload_n d_T_fault_121 0 rfl rfl ?_
      refine g_getV (x := .int ((σ.1 2 1) - 48)) d_T_fault_122 fl_T_26 (by decide) rfl rfl rfl ?_
      refine g_aload_n d_T_fault_125 0 rfl rfl ?_
      refine g_getV (x := .int ((σ.1 2 0) - 48)) d_T_fault_126 fl_T_23 (by decide) rfl rfl rfl ?_
      refine g_iconst d_T_fault_129 (x := 1) (by decide) ?_
      refine g_isub d_T_fault_130 ?_
      refine g_imul d_T_fault_131 ?_
      refine g_iconst d_T_fault_132 (x := 1) (by decide) ?_
      refine g_iadd d_T_fault_133 ?_
      refine g_callVi (av := [.int ((((σ.1 2 1) - 48) * (((σ.1 2 0) - 48) - 1)) + 1)]) (rest := []) d_T_fault_134 Y_T_digitsFault lk_T_59 (by decide) rfl rfl I_T_digitsFault rfl (Nat.le_of_ble_eq_true rfl) rfl h (fun r1 σ1 h => ?_)
      exact g_iret d_T_fault_137 rfl h
    have h := h.2
    by_cases hk1 : (σ.1 2 2) = 84
    · refine g_lookup (tgt := 104) d_T_fault_77 (by decide +kernel) (by rw [hk1] <;> decide +kernel) rfl ?_
      have h := h.1 hk1
      refine g_aload_n d_T_fault_104 0 rfl rfl ?_
      refine g_aload_n d_T_fault_105 0 rfl rfl ?_
      refine g_getV (x := .int ((σ.1 2 0) - 48)) d_T_fault_106 fl_T_23 (by decide) rfl rfl rfl ?_
      refine g_aload_n d_T_fault_109 0 rfl rfl ?_
      refine g_getV (x := .int ((σ.1 2 1) - 48)) d_T_fault_110 fl_T_26 (by decide) rfl rfl rfl ?_
      refine g_callSNi (av := [.int ((σ.1 2 0) - 48), .int ((σ.1 2 1) - 48)]) (rest := [.ref (v.2.2 1)]) d_T_fault_113 Y_A_power lk_T_55 I_A_power rfl (Nat.le_of_ble_eq_true rfl) rfl h (fun r2 σ2 h => ?_)
      refine g_callVi (av := [.int r2]) (rest := []) d_T_fault_116 Y_T_digitsFault lk_T_59 (by decide) rfl rfl I_T_digitsFault rfl (Nat.le_of_ble_eq_true rfl) rfl h (fun r3 σ3 h => ?_)
      exact g_iret d_T_fault_119 rfl h
    have h := h.2
    refine g_lookup (tgt := 138) d_T_fault_77 (by decide +kernel) (by show Op.lookupswitch.offset [(83, 43), (84, 27)] _ _ = _; rw [lv_osw hk0 (by decide +kernel), lv_osw hk1 (by decide +kernel)] <;> rfl) rfl ?_
    have h := h hk0 hk1
    refine g_aload_n d_T_fault_138 0 rfl rfl ?_
    refine g_iconst d_T_fault_139 (x := 0) (by decide) ?_
    refine g_callVi (av := [.int 0]) (rest := []) d_T_fault_140 Y_T_valueFor lk_T_63 (by decide) rfl rfl I_T_valueFor rfl (Nat.le_of_ble_eq_true rfl) rfl h (fun r4 σ4 h => ?_)
    refine g_pop d_T_fault_143 rfl ?_
    refine g_aload_n d_T_fault_144 0 rfl rfl ?_
    refine g_getV (x := .int (σ4.1 1 8)) d_T_fault_145 fl_T_39 (by decide) rfl rfl rfl ?_
    refine g_if_ne (tgt := 162) d_T_fault_148 rfl (fun hc => ?_) (fun hc => ?_)
    · have h := h.1 hc
      exact g_sub [0] rfl h
    · have h := h.2 hc
      refine g_aload_n d_T_fault_151 0 rfl rfl ?_
      refine g_getV (x := .int (σ4.1 1 6)) d_T_fault_152 fl_T_33 (by decide) rfl rfl rfl ?_
      refine g_aload_n d_T_fault_155 0 rfl rfl ?_
      refine g_getV (x := .int (σ4.1 1 2)) d_T_fault_156 fl_T_19 (by decide) rfl rfl rfl ?_
      refine g_icmp_ge (tgt := 169) d_T_fault_159 rfl (fun hc => ?_) (fun hc => ?_)
      · have h := h.1 hc
        refine g_iconst d_T_fault_169 (x := (-1)) (by decide) ?_
        exact g_sub [] rfl h
      · have h := h.2 hc
        exact g_sub [0] rfl h
  · have h := h.2 hc
    refine g_iload_n d_T_fault_7 1 rfl rfl ?_
    refine g_aload_n d_T_fault_8 0 rfl rfl ?_
    refine g_getV (x := .int (σ.1 1 2)) d_T_fault_9 fl_T_19 (by decide) rfl rfl rfl ?_
    refine g_icmp_ge (tgt := 29) d_T_fault_12 rfl (fun hc => ?_) (fun hc => ?_)
    · have h := h.1 hc
      exact g_sub [1] rfl h
    · have h := h.2 hc
      refine g_aload_n d_T_fault_15 0 rfl rfl ?_
      refine g_iload_n d_T_fault_16 1 rfl rfl ?_
      refine g_aload_n d_T_fault_17 0 rfl rfl ?_
      refine g_getV (x := .ref (v.2.2 2)) d_T_fault_18 fl_T_9 (by decide) rfl rfl rfl ?_
      refine g_iload_n d_T_fault_21 1 rfl rfl ?_
      have hi5 := h.1
      have h := h.2
      refine g_cald (x := σ.1 2 x1.toNatClampNeg) d_T_fault_22 (by decide) rfl hi5 rfl ?_
      refine g_callVi (av := [.int x1, .int (σ.1 2 x1.toNatClampNeg)]) (rest := []) d_T_fault_23 Y_T_fitsHead lk_T_51 (by decide) rfl rfl I_T_fitsHead rfl (Nat.le_of_ble_eq_true rfl) rfl h (fun r6 σ6 h => ?_)
      refine g_if_ne (tgt := 31) d_T_fault_26 rfl (fun hc => ?_) (fun hc => ?_)
      · have h := h.1 hc
        refine g_iinc (L' := [(1, .int (x1 + 1)), (0, .ref (v.2.2 1))]) d_T_fault_31 1 rfl (by rfl) (by decide) rfl ?_
        refine g_goto (tgt := 2) d_T_fault_34 rfl ?_
        exact g_sub [1, 0] rfl h
      · have h := h.2 hc
        exact g_sub [1] rfl h
set_option maxRecDepth 20000 in
set_option maxHeartbeats 1000000 in
theorem T_T_fault_29 {l : Launch} {v : gs_V} {n : Nat} {post : Int32 → gs_S → Prop} {σ : gs_S} {x1 : Int32} (h : post x1 σ) : G_T_fault_29 l v n post σ x1 := by
  refine g_iload_n d_T_fault_29 0 rfl rfl ?_
  exact g_iret d_T_fault_30 rfl h
set_option maxRecDepth 20000 in
set_option maxHeartbeats 1000000 in
theorem T_T_fault_162 {l : Launch} {v : gs_V} {n : Nat} {post : Int32 → gs_S → Prop} {σ : gs_S} (h : G_T_fault_170 l v n post σ (σ.1 1 6)) : G_T_fault_162 l v n post σ := by
  refine g_aload_n d_T_fault_162 0 rfl rfl ?_
  refine g_getV (x := .int (σ.1 1 6)) d_T_fault_163 fl_T_33 (by decide) rfl rfl rfl ?_
  refine g_goto (tgt := 170) d_T_fault_166 rfl ?_
  exact g_sub [] rfl h
set_option maxRecDepth 20000 in
set_option maxHeartbeats 1000000 in
theorem T_T_fault_170 {l : Launch} {v : gs_V} {n : Nat} {post : Int32 → gs_S → Prop} {σ : gs_S} {s0 : Int32} (h : post s0 σ) : G_T_fault_170 l v n post σ s0 := by
  exact g_iret d_T_fault_170 rfl h
theorem E_T_fault {l : Launch} {v : gs_V} {n : Nat} {post : Int32 → gs_S → Prop} {σ : gs_S} (h : G_T_fault_0 l v n post σ) : gM l v lyC 42 me_T_fault (n + 1) [.ref (v.2.2 1)] σ (qI v lyC 42 post) := gM_of (by decide +kernel) (Nat.le_of_ble_eq_true rfl) h
/-! LineRules$Text.readInto -/
theorem d_T_readInto_0 : decode me_T_readInto.2.1 0 = .ok (.aload_n 0, 1) := by decide +kernel
theorem d_T_readInto_1 : decode me_T_readInto.2.1 1 = .ok (.invokevirtual 43, 3) := by decide +kernel
theorem d_T_readInto_4 : decode me_T_readInto.2.1 4 = .ok (.istore_n 2, 1) := by decide +kernel
theorem d_T_readInto_5 : decode me_T_readInto.2.1 5 = .ok (.iload_n 2, 1) := by decide +kernel
theorem d_T_readInto_6 : decode me_T_readInto.2.1 6 = .ok (.iconst (-1), 1) := by decide +kernel
theorem d_T_readInto_7 : decode me_T_readInto.2.1 7 = .ok (.if_icmp .ne 8, 3) := by decide +kernel
theorem d_T_readInto_10 : decode me_T_readInto.2.1 10 = .ok (.aload_n 0, 1) := by decide +kernel
theorem d_T_readInto_11 : decode me_T_readInto.2.1 11 = .ok (.aload_n 1, 1) := by decide +kernel
theorem d_T_readInto_12 : decode me_T_readInto.2.1 12 = .ok (.invokevirtual 47, 3) := by decide +kernel
theorem d_T_readInto_15 : decode me_T_readInto.2.1 15 = .ok (.aload_n 0, 1) := by decide +kernel
theorem d_T_readInto_16 : decode me_T_readInto.2.1 16 = .ok (.iconst 0, 1) := by decide +kernel
theorem d_T_readInto_17 : decode me_T_readInto.2.1 17 = .ok (.putfield 19, 3) := by decide +kernel
theorem d_T_readInto_20 : decode me_T_readInto.2.1 20 = .ok (.iload_n 2, 1) := by decide +kernel
theorem d_T_readInto_21 : decode me_T_readInto.2.1 21 = .ok (.ireturn, 1) := by decide +kernel
abbrev G_T_readInto_0 (l : Launch) (v : gs_V) (n : Nat) (post : Int32 → gs_S → Prop) (σ : gs_S) : Prop := gG l v lyC 42 me_T_readInto n (qI v lyC 42 post) 0 [(0, .ref (v.2.2 1)), (1, .ref (v.2.2 4))] [] σ
abbrev G_T_readInto_15 (l : Launch) (v : gs_V) (n : Nat) (post : Int32 → gs_S → Prop) (σ : gs_S) (x2 : Int32) : Prop := gG l v lyC 42 me_T_readInto n (qI v lyC 42 post) 15 [(0, .ref (v.2.2 1)), (2, .int x2)] [] σ
set_option maxRecDepth 20000 in
set_option maxHeartbeats 1000000 in
theorem T_T_readInto_0 {l : Launch} {v : gs_V} {n : Nat} {post : Int32 → gs_S → Prop} {σ : gs_S} (h : gM l v lyC 42 me_T_fault n [.ref (v.2.2 1)] σ (qI v lyC 42 (fun r1 σ1 => ((¬ r1 = ((-1)) → G_T_readInto_15 l v n post σ1 r1) ∧ (r1 = ((-1)) → gM l v lyC 42 me_T_fill n [.ref (v.2.2 1), .ref (v.2.2 4)] σ1 (qV v lyC 42 (fun σ2 => G_T_readInto_15 l v n post σ2 r1))))))) : G_T_readInto_0 l v n post σ := by
  refine g_aload_n d_T_readInto_0 0 rfl rfl ?_
  refine g_callVi (av := []) (rest := []) d_T_readInto_1 Y_T_fault lk_T_43 (by decide) rfl rfl I_T_fault rfl (Nat.le_of_ble_eq_true rfl) rfl h (fun r1 σ1 h => ?_)
  refine g_istore_n (L' := [(2, .int r1), (0, .ref (v.2.2 1)), (1, .ref (v.2.2 4))]) d_T_readInto_4 rfl (by decide) rfl ?_
  refine g_iload_n d_T_readInto_5 0 rfl rfl ?_
  refine g_iconst d_T_readInto_6 (x := (-1)) (by decide) ?_
  refine g_icmp_ne (tgt := 15) d_T_readInto_7 rfl (fun hc => ?_) (fun hc => ?_)
  · have h := h.1 hc
    exact g_sub [1, 0] rfl h
  · have h := h.2 hc
    refine g_aload_n d_T_readInto_10 1 rfl rfl ?_
    refine g_aload_n d_T_readInto_11 2 rfl rfl ?_
    refine g_callVv (av := [.ref (v.2.2 4)]) (rest := []) d_T_readInto_12 Y_T_fill lk_T_47 (by decide) rfl rfl I_T_fill rfl (Nat.le_of_ble_eq_true rfl) rfl h (fun σ2 h => ?_)
    exact g_sub [1, 0] rfl h
set_option maxRecDepth 20000 in
set_option maxHeartbeats 1000000 in
theorem T_T_readInto_15 {l : Launch} {v : gs_V} {n : Nat} {post : Int32 → gs_S → Prop} {σ : gs_S} {x2 : Int32} (h : post x2 (gs_pI σ 1 2 0)) : G_T_readInto_15 l v n post σ x2 := by
  refine g_aload_n d_T_readInto_15 0 rfl rfl ?_
  refine g_iconst d_T_readInto_16 (x := 0) (by decide) ?_
  refine g_putI d_T_readInto_17 fp_T_19 (by decide) rfl rfl ⟨rfl, rfl⟩ ?_
  refine g_iload_n d_T_readInto_20 1 rfl rfl ?_
  exact g_iret d_T_readInto_21 rfl h
theorem E_T_readInto {l : Launch} {v : gs_V} {n : Nat} {post : Int32 → gs_S → Prop} {σ : gs_S} (h : G_T_readInto_0 l v n post σ) : gM l v lyC 42 me_T_readInto (n + 1) [.ref (v.2.2 1), .ref (v.2.2 4)] σ (qI v lyC 42 post) := gM_of (by decide +kernel) (Nat.le_of_ble_eq_true rfl) h
