/-! LineRules$Text.append -/
theorem d_T_append_0 : decode me_T_append.2.1 0 = .ok (.iload_n 1, 1) := by decide +kernel
theorem d_T_append_1 : decode me_T_append.2.1 1 = .ok (.bipush 32, 2) := by decide +kernel
theorem d_T_append_3 : decode me_T_append.2.1 3 = .ok (.if_icmp .lt 9, 3) := by decide +kernel
theorem d_T_append_6 : decode me_T_append.2.1 6 = .ok (.iload_n 1, 1) := by decide +kernel
theorem d_T_append_7 : decode me_T_append.2.1 7 = .ok (.bipush 126, 2) := by decide +kernel
theorem d_T_append_9 : decode me_T_append.2.1 9 = .ok (.if_icmp .le 5, 3) := by decide +kernel
theorem d_T_append_12 : decode me_T_append.2.1 12 = .ok (.iconst (-1), 1) := by decide +kernel
theorem d_T_append_13 : decode me_T_append.2.1 13 = .ok (.ireturn, 1) := by decide +kernel
theorem d_T_append_14 : decode me_T_append.2.1 14 = .ok (.aload_n 0, 1) := by decide +kernel
theorem d_T_append_15 : decode me_T_append.2.1 15 = .ok (.getfield 19, 3) := by decide +kernel
theorem d_T_append_18 : decode me_T_append.2.1 18 = .ok (.bipush 64, 2) := by decide +kernel
theorem d_T_append_20 : decode me_T_append.2.1 20 = .ok (.if_icmp .lt 6, 3) := by decide +kernel
theorem d_T_append_23 : decode me_T_append.2.1 23 = .ok (.bipush (-2), 2) := by decide +kernel
theorem d_T_append_25 : decode me_T_append.2.1 25 = .ok (.ireturn, 1) := by decide +kernel
theorem d_T_append_26 : decode me_T_append.2.1 26 = .ok (.aload_n 0, 1) := by decide +kernel
theorem d_T_append_27 : decode me_T_append.2.1 27 = .ok (.getfield 9, 3) := by decide +kernel
theorem d_T_append_30 : decode me_T_append.2.1 30 = .ok (.aload_n 0, 1) := by decide +kernel
theorem d_T_append_31 : decode me_T_append.2.1 31 = .ok (.getfield 19, 3) := by decide +kernel
theorem d_T_append_34 : decode me_T_append.2.1 34 = .ok (.iload_n 1, 1) := by decide +kernel
theorem d_T_append_35 : decode me_T_append.2.1 35 = .ok (.i2c, 1) := by decide +kernel
theorem d_T_append_36 : decode me_T_append.2.1 36 = .ok (.castore, 1) := by decide +kernel
theorem d_T_append_37 : decode me_T_append.2.1 37 = .ok (.aload_n 0, 1) := by decide +kernel
theorem d_T_append_38 : decode me_T_append.2.1 38 = .ok (.dup, 1) := by decide +kernel
theorem d_T_append_39 : decode me_T_append.2.1 39 = .ok (.getfield 19, 3) := by decide +kernel
theorem d_T_append_42 : decode me_T_append.2.1 42 = .ok (.iconst 1, 1) := by decide +kernel
theorem d_T_append_43 : decode me_T_append.2.1 43 = .ok (.iadd, 1) := by decide +kernel
theorem d_T_append_44 : decode me_T_append.2.1 44 = .ok (.putfield 19, 3) := by decide +kernel
theorem d_T_append_47 : decode me_T_append.2.1 47 = .ok (.aload_n 0, 1) := by decide +kernel
theorem d_T_append_48 : decode me_T_append.2.1 48 = .ok (.getfield 19, 3) := by decide +kernel
theorem d_T_append_51 : decode me_T_append.2.1 51 = .ok (.ireturn, 1) := by decide +kernel
abbrev G_T_append_0 (l : Launch) (v : gs_V) (n : Nat) (post : Int32 → gs_S → Prop) (σ : gs_S) (x1 : Int32) : Prop := gG l v lyC 42 me_T_append n (qI v lyC 42 post) 0 [(0, .ref (v.2.2 1)), (1, .int x1)] [] σ
abbrev G_T_append_12 (l : Launch) (v : gs_V) (n : Nat) (post : Int32 → gs_S → Prop) (σ : gs_S) : Prop := gG l v lyC 42 me_T_append n (qI v lyC 42 post) 12 [] [] σ
set_option maxRecDepth 20000 in
set_option maxHeartbeats 1000000 in
theorem T_T_append_0 {l : Launch} {v : gs_V} {n : Nat} {post : Int32 → gs_S → Prop} {σ : gs_S} {x1 : Int32} (h : ((x1 < 32 → G_T_append_12 l v n post σ) ∧ (¬ x1 < 32 → ((x1 ≤ 126 → (((σ.1 1 2) < 64 → vp_in (σ.1 1 2) 64 ∧ post ((σ.1 1 2) + 1) (gs_pI (gs_pI σ 2 ((σ.1 1 2).toNatClampNeg) (vp_nar .char ((x1.toUInt32 % 65536).toInt32))) 1 2 ((σ.1 1 2) + 1))) ∧ (¬ (σ.1 1 2) < 64 → post ((-2)) σ))) ∧ (¬ x1 ≤ 126 → G_T_append_12 l v n post σ))))) : G_T_append_0 l v n post σ x1 := by
  refine g_iload_n d_T_append_0 1 rfl rfl ?_
  refine g_bipush d_T_append_1 (x := 32) (by decide) ?_
  refine g_icmp_lt (tgt := 12) d_T_append_3 rfl (fun hc => ?_) (fun hc => ?_)
  · have h := h.1 hc
    exact g_sub [] rfl h
  · have h := h.2 hc
    refine g_iload_n d_T_append_6 1 rfl rfl ?_
    refine g_bipush d_T_append_7 (x := 126) (by decide) ?_
    refine g_icmp_le (tgt := 14) d_T_append_9 rfl (fun hc => ?_) (fun hc => ?_)
    · have h := h.1 hc
      refine g_aload_n d_T_append_14 0 rfl rfl ?_
      refine g_getV (x := .int (σ.1 1 2)) d_T_append_15 fl_T_19 (by decide) rfl rfl rfl ?_
      refine g_bipush d_T_append_18 (x := 64) (by decide) ?_
      refine g_icmp_lt (tgt := 26) d_T_append_20 rfl (fun hc => ?_) (fun hc => ?_)
      · have h := h.1 hc
        refine g_aload_n d_T_append_26 0 rfl rfl ?_
        refine g_getV (x := .ref (v.2.2 2)) d_T_append_27 fl_T_9 (by decide) rfl rfl rfl ?_
        refine g_aload_n d_T_append_30 0 rfl rfl ?_
        refine g_getV (x := .int (σ.1 1 2)) d_T_append_31 fl_T_19 (by decide) rfl rfl rfl ?_
        refine g_iload_n d_T_append_34 1 rfl rfl ?_
        refine g_i2c d_T_append_35 ?_
        have hi1 := h.1
        have h := h.2
        refine g_cast d_T_append_36 (by decide) rfl hi1 ?_
        refine g_aload_n d_T_append_37 0 rfl rfl ?_
        refine g_dup d_T_append_38 rfl ?_
        refine g_getV (x := .int (σ.1 1 2)) d_T_append_39 fl_T_19 (by decide) rfl rfl rfl ?_
        refine g_iconst d_T_append_42 (x := 1) (by decide) ?_
        refine g_iadd d_T_append_43 ?_
        refine g_putI d_T_append_44 fp_T_19 (by decide) rfl rfl ⟨rfl, rfl⟩ ?_
        refine g_aload_n d_T_append_47 0 rfl rfl ?_
        refine g_getV (x := .int ((σ.1 1 2) + 1)) d_T_append_48 fl_T_19 (by decide) rfl rfl rfl ?_
        exact g_iret d_T_append_51 rfl h
      · have h := h.2 hc
        refine g_bipush d_T_append_23 (x := (-2)) (by decide) ?_
        exact g_iret d_T_append_25 rfl h
    · have h := h.2 hc
      exact g_sub [] rfl h
set_option maxRecDepth 20000 in
set_option maxHeartbeats 1000000 in
theorem T_T_append_12 {l : Launch} {v : gs_V} {n : Nat} {post : Int32 → gs_S → Prop} {σ : gs_S} (h : post ((-1)) σ) : G_T_append_12 l v n post σ := by
  refine g_iconst d_T_append_12 (x := (-1)) (by decide) ?_
  exact g_iret d_T_append_13 rfl h
theorem E_T_append {l : Launch} {v : gs_V} {n : Nat} {post : Int32 → gs_S → Prop} {σ : gs_S} {x1 : Int32} (h : G_T_append_0 l v n post σ x1) : gM l v lyC 42 me_T_append (n + 1) [.ref (v.2.2 1), .int x1] σ (qI v lyC 42 post) := gM_of (by decide +kernel) (Nat.le_of_ble_eq_true rfl) h
/-! LineRules$Text.bracket -/
theorem d_T_bracket_0 : decode me_T_bracket.2.1 0 = .ok (.aload_n 0, 1) := by decide +kernel
theorem d_T_bracket_1 : decode me_T_bracket.2.1 1 = .ok (.invokevirtual 97, 3) := by decide +kernel
theorem d_T_bracket_4 : decode me_T_bracket.2.1 4 = .ok (.ifCond .ne 5, 3) := by decide +kernel
theorem d_T_bracket_7 : decode me_T_bracket.2.1 7 = .ok (.iconst 0, 1) := by decide +kernel
theorem d_T_bracket_8 : decode me_T_bracket.2.1 8 = .ok (.ireturn, 1) := by decide +kernel
theorem d_T_bracket_9 : decode me_T_bracket.2.1 9 = .ok (.aload_n 0, 1) := by decide +kernel
theorem d_T_bracket_10 : decode me_T_bracket.2.1 10 = .ok (.invokevirtual 87, 3) := by decide +kernel
theorem d_T_bracket_13 : decode me_T_bracket.2.1 13 = .ok (.istore_n 1, 1) := by decide +kernel
theorem d_T_bracket_14 : decode me_T_bracket.2.1 14 = .ok (.aload_n 0, 1) := by decide +kernel
theorem d_T_bracket_15 : decode me_T_bracket.2.1 15 = .ok (.invokevirtual 93, 3) := by decide +kernel
theorem d_T_bracket_18 : decode me_T_bracket.2.1 18 = .ok (.bipush 41, 2) := by decide +kernel
theorem d_T_bracket_20 : decode me_T_bracket.2.1 20 = .ok (.if_icmp .eq 10, 3) := by decide +kernel
theorem d_T_bracket_23 : decode me_T_bracket.2.1 23 = .ok (.aload_n 0, 1) := by decide +kernel
theorem d_T_bracket_24 : decode me_T_bracket.2.1 24 = .ok (.iconst 1, 1) := by decide +kernel
theorem d_T_bracket_25 : decode me_T_bracket.2.1 25 = .ok (.putfield 39, 3) := by decide +kernel
theorem d_T_bracket_28 : decode me_T_bracket.2.1 28 = .ok (.iconst 0, 1) := by decide +kernel
theorem d_T_bracket_29 : decode me_T_bracket.2.1 29 = .ok (.ireturn, 1) := by decide +kernel
theorem d_T_bracket_30 : decode me_T_bracket.2.1 30 = .ok (.aload_n 0, 1) := by decide +kernel
theorem d_T_bracket_31 : decode me_T_bracket.2.1 31 = .ok (.dup, 1) := by decide +kernel
theorem d_T_bracket_32 : decode me_T_bracket.2.1 32 = .ok (.getfield 33, 3) := by decide +kernel
theorem d_T_bracket_35 : decode me_T_bracket.2.1 35 = .ok (.iconst 1, 1) := by decide +kernel
theorem d_T_bracket_36 : decode me_T_bracket.2.1 36 = .ok (.iadd, 1) := by decide +kernel
theorem d_T_bracket_37 : decode me_T_bracket.2.1 37 = .ok (.putfield 33, 3) := by decide +kernel
theorem d_T_bracket_40 : decode me_T_bracket.2.1 40 = .ok (.aload_n 0, 1) := by decide +kernel
theorem d_T_bracket_41 : decode me_T_bracket.2.1 41 = .ok (.dup, 1) := by decide +kernel
theorem d_T_bracket_42 : decode me_T_bracket.2.1 42 = .ok (.getfield 36, 3) := by decide +kernel
theorem d_T_bracket_45 : decode me_T_bracket.2.1 45 = .ok (.iconst 1, 1) := by decide +kernel
theorem d_T_bracket_46 : decode me_T_bracket.2.1 46 = .ok (.isub, 1) := by decide +kernel
theorem d_T_bracket_47 : decode me_T_bracket.2.1 47 = .ok (.putfield 36, 3) := by decide +kernel
theorem d_T_bracket_50 : decode me_T_bracket.2.1 50 = .ok (.iload_n 1, 1) := by decide +kernel
theorem d_T_bracket_51 : decode me_T_bracket.2.1 51 = .ok (.ireturn, 1) := by decide +kernel
abbrev G_T_bracket_0 (l : Launch) (v : gs_V) (n : Nat) (post : Int32 → gs_S → Prop) (σ : gs_S) : Prop := gG l v lyC 42 me_T_bracket n (qI v lyC 42 post) 0 [(0, .ref (v.2.2 1))] [] σ
set_option maxRecDepth 20000 in
set_option maxHeartbeats 1000000 in
theorem T_T_bracket_0 {l : Launch} {v : gs_V} {n : Nat} {post : Int32 → gs_S → Prop} {σ : gs_S} (h : gM l v lyC 42 me_T_opens n [.ref (v.2.2 1)] σ (qI v lyC 42 (fun r1 σ1 => ((¬ r1 = 0 → gM l v lyC 42 me_T_choice n [.ref (v.2.2 1)] σ1 (qI v lyC 42 (fun r2 σ2 => gM l v lyC 42 me_T_here n [.ref (v.2.2 1)] σ2 (qI v lyC 42 (fun r3 σ3 => ((r3 = 41 → post r2 (gs_pI (gs_pI σ3 1 6 ((σ3.1 1 6) + 1)) 1 7 ((σ3.1 1 7) - 1))) ∧ (¬ r3 = 41 → post 0 (gs_pI σ3 1 8 1)))))))) ∧ (r1 = 0 → post 0 σ1))))) : G_T_bracket_0 l v n post σ := by
  refine g_aload_n d_T_bracket_0 0 rfl rfl ?_
  refine g_callVi (av := []) (rest := []) d_T_bracket_1 Y_T_opens lk_T_97 (by decide) rfl rfl I_T_opens rfl (Nat.le_of_ble_eq_true rfl) rfl h (fun r1 σ1 h => ?_)
  refine g_if_ne (tgt := 9) d_T_bracket_4 rfl (fun hc => ?_) (fun hc => ?_)
  · have h := h.1 hc
    refine g_aload_n d_T_bracket_9 0 rfl rfl ?_
    refine g_callVi (av := []) (rest := []) d_T_bracket_10 Y_T_choice lk_T_87 (by decide) rfl rfl I_T_choice rfl (Nat.le_of_ble_eq_true rfl) rfl h (fun r2 σ2 h => ?_)
    refine g_istore_n (L' := [(1, .int r2), (0, .ref (v.2.2 1))]) d_T_bracket_13 rfl (by decide) rfl ?_
    refine g_aload_n d_T_bracket_14 1 rfl rfl ?_
    refine g_callVi (av := []) (rest := []) d_T_bracket_15 Y_T_here lk_T_93 (by decide) rfl rfl I_T_here rfl (Nat.le_of_ble_eq_true rfl) rfl h (fun r3 σ3 h => ?_)
    refine g_bipush d_T_bracket_18 (x := 41) (by decide) ?_
    refine g_icmp_eq (tgt := 30) d_T_bracket_20 rfl (fun hc => ?_) (fun hc => ?_)
    · have h := h.1 hc
      refine g_aload_n d_T_bracket_30 1 rfl rfl ?_
      refine g_dup d_T_bracket_31 rfl ?_
      refine g_getV (x := .int (σ3.1 1 6)) d_T_bracket_32 fl_T_33 (by decide) rfl rfl rfl ?_
      refine g_iconst d_T_bracket_35 (x := 1) (by decide) ?_
      refine g_iadd d_T_bracket_36 ?_
      refine g_putI d_T_bracket_37 fp_T_33 (by decide) rfl rfl ⟨rfl, rfl⟩ ?_
      refine g_aload_n d_T_bracket_40 1 rfl rfl ?_
      refine g_dup d_T_bracket_41 rfl ?_
      refine g_getV (x := .int (σ3.1 1 7)) d_T_bracket_42 fl_T_36 (by decide) rfl rfl rfl ?_
      refine g_iconst d_T_bracket_45 (x := 1) (by decide) ?_
      refine g_isub d_T_bracket_46 ?_
      refine g_putI d_T_bracket_47 fp_T_36 (by decide) rfl rfl ⟨rfl, rfl⟩ ?_
      refine g_iload_n d_T_bracket_50 0 rfl rfl ?_
      exact g_iret d_T_bracket_51 rfl h
    · have h := h.2 hc
      refine g_aload_n d_T_bracket_23 1 rfl rfl ?_
      refine g_iconst d_T_bracket_24 (x := 1) (by decide) ?_
      refine g_putI d_T_bracket_25 fp_T_39 (by decide) rfl rfl ⟨rfl, rfl⟩ ?_
      refine g_iconst d_T_bracket_28 (x := 0) (by decide) ?_
      exact g_iret d_T_bracket_29 rfl h
  · have h := h.2 hc
    refine g_iconst d_T_bracket_7 (x := 0) (by decide) ?_
    exact g_iret d_T_bracket_8 rfl h
theorem E_T_bracket {l : Launch} {v : gs_V} {n : Nat} {post : Int32 → gs_S → Prop} {σ : gs_S} (h : G_T_bracket_0 l v n post σ) : gM l v lyC 42 me_T_bracket (n + 1) [.ref (v.2.2 1)] σ (qI v lyC 42 post) := gM_of (by decide +kernel) (Nat.le_of_ble_eq_true rfl) h
/-! LineRules$Text.choice -/
theorem d_T_choice_0 : decode me_T_choice.2.1 0 = .ok (.aload_n 0, 1) := by decide +kernel
theorem d_T_choice_1 : decode me_T_choice.2.1 1 = .ok (.iconst 0, 1) := by decide +kernel
theorem d_T_choice_2 : decode me_T_choice.2.1 2 = .ok (.invokevirtual 90, 3) := by decide +kernel
theorem d_T_choice_5 : decode me_T_choice.2.1 5 = .ok (.istore_n 1, 1) := by decide +kernel
theorem d_T_choice_6 : decode me_T_choice.2.1 6 = .ok (.aload_n 0, 1) := by decide +kernel
theorem d_T_choice_7 : decode me_T_choice.2.1 7 = .ok (.invokevirtual 93, 3) := by decide +kernel
theorem d_T_choice_10 : decode me_T_choice.2.1 10 = .ok (.bipush 63, 2) := by decide +kernel
theorem d_T_choice_12 : decode me_T_choice.2.1 12 = .ok (.if_icmp .eq 5, 3) := by decide +kernel
theorem d_T_choice_15 : decode me_T_choice.2.1 15 = .ok (.iload_n 1, 1) := by decide +kernel
theorem d_T_choice_16 : decode me_T_choice.2.1 16 = .ok (.ireturn, 1) := by decide +kernel
theorem d_T_choice_17 : decode me_T_choice.2.1 17 = .ok (.aload_n 0, 1) := by decide +kernel
theorem d_T_choice_18 : decode me_T_choice.2.1 18 = .ok (.invokevirtual 97, 3) := by decide +kernel
theorem d_T_choice_21 : decode me_T_choice.2.1 21 = .ok (.ifCond .ne 5, 3) := by decide +kernel
theorem d_T_choice_24 : decode me_T_choice.2.1 24 = .ok (.iconst 0, 1) := by decide +kernel
theorem d_T_choice_25 : decode me_T_choice.2.1 25 = .ok (.ireturn, 1) := by decide +kernel
theorem d_T_choice_26 : decode me_T_choice.2.1 26 = .ok (.aload_n 0, 1) := by decide +kernel
theorem d_T_choice_27 : decode me_T_choice.2.1 27 = .ok (.invokevirtual 87, 3) := by decide +kernel
theorem d_T_choice_30 : decode me_T_choice.2.1 30 = .ok (.istore_n 2, 1) := by decide +kernel
theorem d_T_choice_31 : decode me_T_choice.2.1 31 = .ok (.aload_n 0, 1) := by decide +kernel
theorem d_T_choice_32 : decode me_T_choice.2.1 32 = .ok (.invokevirtual 93, 3) := by decide +kernel
theorem d_T_choice_35 : decode me_T_choice.2.1 35 = .ok (.bipush 58, 2) := by decide +kernel
theorem d_T_choice_37 : decode me_T_choice.2.1 37 = .ok (.if_icmp .eq 10, 3) := by decide +kernel
theorem d_T_choice_40 : decode me_T_choice.2.1 40 = .ok (.aload_n 0, 1) := by decide +kernel
theorem d_T_choice_41 : decode me_T_choice.2.1 41 = .ok (.iconst 1, 1) := by decide +kernel
theorem d_T_choice_42 : decode me_T_choice.2.1 42 = .ok (.putfield 39, 3) := by decide +kernel
theorem d_T_choice_45 : decode me_T_choice.2.1 45 = .ok (.iconst 0, 1) := by decide +kernel
theorem d_T_choice_46 : decode me_T_choice.2.1 46 = .ok (.ireturn, 1) := by decide +kernel
theorem d_T_choice_47 : decode me_T_choice.2.1 47 = .ok (.aload_n 0, 1) := by decide +kernel
theorem d_T_choice_48 : decode me_T_choice.2.1 48 = .ok (.dup, 1) := by decide +kernel
theorem d_T_choice_49 : decode me_T_choice.2.1 49 = .ok (.getfield 33, 3) := by decide +kernel
theorem d_T_choice_52 : decode me_T_choice.2.1 52 = .ok (.iconst 1, 1) := by decide +kernel
theorem d_T_choice_53 : decode me_T_choice.2.1 53 = .ok (.iadd, 1) := by decide +kernel
theorem d_T_choice_54 : decode me_T_choice.2.1 54 = .ok (.putfield 33, 3) := by decide +kernel
theorem d_T_choice_57 : decode me_T_choice.2.1 57 = .ok (.aload_n 0, 1) := by decide +kernel
theorem d_T_choice_58 : decode me_T_choice.2.1 58 = .ok (.invokevirtual 87, 3) := by decide +kernel
theorem d_T_choice_61 : decode me_T_choice.2.1 61 = .ok (.istore_n 3, 1) := by decide +kernel
theorem d_T_choice_62 : decode me_T_choice.2.1 62 = .ok (.aload_n 0, 1) := by decide +kernel
theorem d_T_choice_63 : decode me_T_choice.2.1 63 = .ok (.dup, 1) := by decide +kernel
theorem d_T_choice_64 : decode me_T_choice.2.1 64 = .ok (.getfield 36, 3) := by decide +kernel
theorem d_T_choice_67 : decode me_T_choice.2.1 67 = .ok (.iconst 1, 1) := by decide +kernel
theorem d_T_choice_68 : decode me_T_choice.2.1 68 = .ok (.isub, 1) := by decide +kernel
theorem d_T_choice_69 : decode me_T_choice.2.1 69 = .ok (.putfield 36, 3) := by decide +kernel
theorem d_T_choice_72 : decode me_T_choice.2.1 72 = .ok (.iload_n 1, 1) := by decide +kernel
theorem d_T_choice_73 : decode me_T_choice.2.1 73 = .ok (.ifCond .eq 7, 3) := by decide +kernel
theorem d_T_choice_76 : decode me_T_choice.2.1 76 = .ok (.iload_n 2, 1) := by decide +kernel
theorem d_T_choice_77 : decode me_T_choice.2.1 77 = .ok (.goto 4, 3) := by decide +kernel
theorem d_T_choice_80 : decode me_T_choice.2.1 80 = .ok (.iload_n 3, 1) := by decide +kernel
theorem d_T_choice_81 : decode me_T_choice.2.1 81 = .ok (.ireturn, 1) := by decide +kernel
abbrev G_T_choice_0 (l : Launch) (v : gs_V) (n : Nat) (post : Int32 → gs_S → Prop) (σ : gs_S) : Prop := gG l v lyC 42 me_T_choice n (qI v lyC 42 post) 0 [(0, .ref (v.2.2 1))] [] σ
abbrev G_T_choice_81 (l : Launch) (v : gs_V) (n : Nat) (post : Int32 → gs_S → Prop) (σ : gs_S) (s0 : Int32) : Prop := gG l v lyC 42 me_T_choice n (qI v lyC 42 post) 81 [] [.int s0] σ
set_option maxRecDepth 20000 in
set_option maxHeartbeats 1000000 in
theorem T_T_choice_0 {l : Launch} {v : gs_V} {n : Nat} {post : Int32 → gs_S → Prop} {σ : gs_S} (h : gM l v lyC 42 me_T_joined n [.ref (v.2.2 1), .int 0] σ (qI v lyC 42 (fun r1 σ1 => gM l v lyC 42 me_T_here n [.ref (v.2.2 1)] σ1 (qI v lyC 42 (fun r2 σ2 => ((r2 = 63 → gM l v lyC 42 me_T_opens n [.ref (v.2.2 1)] σ2 (qI v lyC 42 (fun r3 σ3 => ((¬ r3 = 0 → gM l v lyC 42 me_T_choice n [.ref (v.2.2 1)] σ3 (qI v lyC 42 (fun r4 σ4 => gM l v lyC 42 me_T_here n [.ref (v.2.2 1)] σ4 (qI v lyC 42 (fun r5 σ5 => ((r5 = 58 → gM l v lyC 42 me_T_choice n [.ref (v.2.2 1)] (gs_pI σ5 1 6 ((σ5.1 1 6) + 1)) (qI v lyC 42 (fun r6 σ6 => ((r1 = 0 → G_T_choice_81 l v n post (gs_pI σ6 1 7 ((σ6.1 1 7) - 1)) r6) ∧ (¬ r1 = 0 → G_T_choice_81 l v n post (gs_pI σ6 1 7 ((σ6.1 1 7) - 1)) r4))))) ∧ (¬ r5 = 58 → post 0 (gs_pI σ5 1 8 1)))))))) ∧ (r3 = 0 → post 0 σ3))))) ∧ (¬ r2 = 63 → post r1 σ2))))))) : G_T_choice_0 l v n post σ := by
  refine g_aload_n d_T_choice_0 0 rfl rfl ?_
  refine g_iconst d_T_choice_1 (x := 0) (by decide) ?_
  refine g_callVi (av := [.int 0]) (rest := []) d_T_choice_2 Y_T_joined lk_T_90 (by decide) rfl rfl I_T_joined rfl (Nat.le_of_ble_eq_true rfl) rfl h (fun r1 σ1 h => ?_)
  refine g_istore_n (L' := [(1, .int r1), (0, .ref (v.2.2 1))]) d_T_choice_5 rfl (by decide) rfl ?_
  refine g_aload_n d_T_choice_6 1 rfl rfl ?_
  refine g_callVi (av := []) (rest := []) d_T_choice_7 Y_T_here lk_T_93 (by decide) rfl rfl I_T_here rfl (Nat.le_of_ble_eq_true rfl) rfl h (fun r2 σ2 h => ?_)
  refine g_bipush d_T_choice_10 (x := 63) (by decide) ?_
  refine g_icmp_eq (tgt := 17) d_T_choice_12 rfl (fun hc => ?_) (fun hc => ?_)
  · have h := h.1 hc
    refine g_aload_n d_T_choice_17 1 rfl rfl ?_
    refine g_callVi (av := []) (rest := []) d_T_choice_18 Y_T_opens lk_T_97 (by decide) rfl rfl I_T_opens rfl (Nat.le_of_ble_eq_true rfl) rfl h (fun r3 σ3 h => ?_)
    refine g_if_ne (tgt := 26) d_T_choice_21 rfl (fun hc => ?_) (fun hc => ?_)
    · have h := h.1 hc
      refine g_aload_n d_T_choice_26 1 rfl rfl ?_
      refine g_callVi (av := []) (rest := []) d_T_choice_27 Y_T_choice lk_T_87 (by decide) rfl rfl I_T_choice rfl (Nat.le_of_ble_eq_true rfl) rfl h (fun r4 σ4 h => ?_)
      refine g_istore_n (L' := [(2, .int r4), (1, .int r1), (0, .ref (v.2.2 1))]) d_T_choice_30 rfl (by decide) rfl ?_
      refine g_aload_n d_T_choice_31 2 rfl rfl ?_
      refine g_callVi (av := []) (rest := []) d_T_choice_32 Y_T_here lk_T_93 (by decide) rfl rfl I_T_here rfl (Nat.le_of_ble_eq_true rfl) rfl h (fun r5 σ5 h => ?_)
      refine g_bipush d_T_choice_35 (x := 58) (by decide) ?_
      refine g_icmp_eq (tgt := 47) d_T_choice_37 rfl (fun hc => ?_) (fun hc => ?_)
      · have h := h.1 hc
        refine g_aload_n d_T_choice_47 2 rfl rfl ?_
        refine g_dup d_T_choice_48 rfl ?_
        refine g_getV (x := .int (σ5.1 1 6)) d_T_choice_49 fl_T_33 (by decide) rfl rfl rfl ?_
        refine g_iconst d_T_choice_52 (x := 1) (by decide) ?_
        refine g_iadd d_T_choice_53 ?_
        refine g_putI d_T_choice_54 fp_T_33 (by decide) rfl rfl ⟨rfl, rfl⟩ ?_
        refine g_aload_n d_T_choice_57 2 rfl rfl ?_
        refine g_callVi (av := []) (rest := []) d_T_choice_58 Y_T_choice lk_T_87 (by decide) rfl rfl I_T_choice rfl (Nat.le_of_ble_eq_true rfl) rfl h (fun r6 σ6 h => ?_)
        refine g_istore_n (L' := [(3, .int r6), (2, .int r4), (1, .int r1), (0, .ref (v.2.2 1))]) d_T_choice_61 rfl (by decide) rfl ?_
        refine g_aload_n d_T_choice_62 3 rfl rfl ?_
        refine g_dup d_T_choice_63 rfl ?_
        refine g_getV (x := .int (σ6.1 1 7)) d_T_choice_64 fl_T_36 (by decide) rfl rfl rfl ?_
        refine g_iconst d_T_choice_67 (x := 1) (by decide) ?_
        refine g_isub d_T_choice_68 ?_
        refine g_putI d_T_choice_69 fp_T_36 (by decide) rfl rfl ⟨rfl, rfl⟩ ?_
        refine g_iload_n d_T_choice_72 2 rfl rfl ?_
        refine g_if_eq (tgt := 80) d_T_choice_73 rfl (fun hc => ?_) (fun hc => ?_)
        · have h := h.1 hc
          refine g_iload_n d_T_choice_80 0 rfl rfl ?_
          exact g_sub [] rfl h
        · have h := h.2 hc
          refine g_iload_n d_T_choice_76 1 rfl rfl ?_
          refine g_goto (tgt := 81) d_T_choice_77 rfl ?_
          exact g_sub [] rfl h
      · have h := h.2 hc
        refine g_aload_n d_T_choice_40 2 rfl rfl ?_
        refine g_iconst d_T_choice_41 (x := 1) (by decide) ?_
        refine g_putI d_T_choice_42 fp_T_39 (by decide) rfl rfl ⟨rfl, rfl⟩ ?_
        refine g_iconst d_T_choice_45 (x := 0) (by decide) ?_
        exact g_iret d_T_choice_46 rfl h
    · have h := h.2 hc
      refine g_iconst d_T_choice_24 (x := 0) (by decide) ?_
      exact g_iret d_T_choice_25 rfl h
  · have h := h.2 hc
    refine g_iload_n d_T_choice_15 0 rfl rfl ?_
    exact g_iret d_T_choice_16 rfl h
set_option maxRecDepth 20000 in
set_option maxHeartbeats 1000000 in
theorem T_T_choice_81 {l : Launch} {v : gs_V} {n : Nat} {post : Int32 → gs_S → Prop} {σ : gs_S} {s0 : Int32} (h : post s0 σ) : G_T_choice_81 l v n post σ s0 := by
  exact g_iret d_T_choice_81 rfl h
theorem E_T_choice {l : Launch} {v : gs_V} {n : Nat} {post : Int32 → gs_S → Prop} {σ : gs_S} (h : G_T_choice_0 l v n post σ) : gM l v lyC 42 me_T_choice (n + 1) [.ref (v.2.2 1)] σ (qI v lyC 42 post) := gM_of (by decide +kernel) (Nat.le_of_ble_eq_true rfl) h
/-! LineRules$Text.digitsFault -/
theorem d_T_digitsFault_0 : decode me_T_digitsFault.2.1 0 = .ok (.iconst 3, 1) := by decide +kernel
theorem d_T_digitsFault_1 : decode me_T_digitsFault.2.1 1 = .ok (.iload_n 1, 1) := by decide +kernel
theorem d_T_digitsFault_2 : decode me_T_digitsFault.2.1 2 = .ok (.iadd, 1) := by decide +kernel
theorem d_T_digitsFault_3 : decode me_T_digitsFault.2.1 3 = .ok (.istore_n 2, 1) := by decide +kernel
theorem d_T_digitsFault_4 : decode me_T_digitsFault.2.1 4 = .ok (.iconst 3, 1) := by decide +kernel
theorem d_T_digitsFault_5 : decode me_T_digitsFault.2.1 5 = .ok (.istore_n 3, 1) := by decide +kernel
theorem d_T_digitsFault_6 : decode me_T_digitsFault.2.1 6 = .ok (.iload_n 3, 1) := by decide +kernel
theorem d_T_digitsFault_7 : decode me_T_digitsFault.2.1 7 = .ok (.iload_n 2, 1) := by decide +kernel
theorem d_T_digitsFault_8 : decode me_T_digitsFault.2.1 8 = .ok (.if_icmp .ge 46, 3) := by decide +kernel
theorem d_T_digitsFault_11 : decode me_T_digitsFault.2.1 11 = .ok (.iload_n 3, 1) := by decide +kernel
theorem d_T_digitsFault_12 : decode me_T_digitsFault.2.1 12 = .ok (.aload_n 0, 1) := by decide +kernel
theorem d_T_digitsFault_13 : decode me_T_digitsFault.2.1 13 = .ok (.getfield 19, 3) := by decide +kernel
theorem d_T_digitsFault_16 : decode me_T_digitsFault.2.1 16 = .ok (.if_icmp .ge 30, 3) := by decide +kernel
theorem d_T_digitsFault_19 : decode me_T_digitsFault.2.1 19 = .ok (.aload_n 0, 1) := by decide +kernel
theorem d_T_digitsFault_20 : decode me_T_digitsFault.2.1 20 = .ok (.getfield 9, 3) := by decide +kernel
theorem d_T_digitsFault_23 : decode me_T_digitsFault.2.1 23 = .ok (.iload_n 3, 1) := by decide +kernel
theorem d_T_digitsFault_24 : decode me_T_digitsFault.2.1 24 = .ok (.caload, 1) := by decide +kernel
theorem d_T_digitsFault_25 : decode me_T_digitsFault.2.1 25 = .ok (.bipush 48, 2) := by decide +kernel
theorem d_T_digitsFault_27 : decode me_T_digitsFault.2.1 27 = .ok (.if_icmp .lt 19, 3) := by decide +kernel
theorem d_T_digitsFault_30 : decode me_T_digitsFault.2.1 30 = .ok (.aload_n 0, 1) := by decide +kernel
theorem d_T_digitsFault_31 : decode me_T_digitsFault.2.1 31 = .ok (.getfield 9, 3) := by decide +kernel
theorem d_T_digitsFault_34 : decode me_T_digitsFault.2.1 34 = .ok (.iload_n 3, 1) := by decide +kernel
theorem d_T_digitsFault_35 : decode me_T_digitsFault.2.1 35 = .ok (.caload, 1) := by decide +kernel
theorem d_T_digitsFault_36 : decode me_T_digitsFault.2.1 36 = .ok (.bipush 48, 2) := by decide +kernel
theorem d_T_digitsFault_38 : decode me_T_digitsFault.2.1 38 = .ok (.aload_n 0, 1) := by decide +kernel
theorem d_T_digitsFault_39 : decode me_T_digitsFault.2.1 39 = .ok (.getfield 23, 3) := by decide +kernel
theorem d_T_digitsFault_42 : decode me_T_digitsFault.2.1 42 = .ok (.iadd, 1) := by decide +kernel
theorem d_T_digitsFault_43 : decode me_T_digitsFault.2.1 43 = .ok (.if_icmp .lt 5, 3) := by decide +kernel
theorem d_T_digitsFault_46 : decode me_T_digitsFault.2.1 46 = .ok (.iload_n 3, 1) := by decide +kernel
theorem d_T_digitsFault_47 : decode me_T_digitsFault.2.1 47 = .ok (.ireturn, 1) := by decide +kernel
theorem d_T_digitsFault_48 : decode me_T_digitsFault.2.1 48 = .ok (.iinc 3 1, 3) := by decide +kernel
theorem d_T_digitsFault_51 : decode me_T_digitsFault.2.1 51 = .ok (.goto (-45), 3) := by decide +kernel
theorem d_T_digitsFault_54 : decode me_T_digitsFault.2.1 54 = .ok (.aload_n 0, 1) := by decide +kernel
theorem d_T_digitsFault_55 : decode me_T_digitsFault.2.1 55 = .ok (.getfield 19, 3) := by decide +kernel
theorem d_T_digitsFault_58 : decode me_T_digitsFault.2.1 58 = .ok (.iload_n 2, 1) := by decide +kernel
theorem d_T_digitsFault_59 : decode me_T_digitsFault.2.1 59 = .ok (.if_icmp .le 7, 3) := by decide +kernel
theorem d_T_digitsFault_62 : decode me_T_digitsFault.2.1 62 = .ok (.iload_n 2, 1) := by decide +kernel
theorem d_T_digitsFault_63 : decode me_T_digitsFault.2.1 63 = .ok (.goto 4, 3) := by decide +kernel
theorem d_T_digitsFault_66 : decode me_T_digitsFault.2.1 66 = .ok (.iconst (-1), 1) := by decide +kernel
theorem d_T_digitsFault_67 : decode me_T_digitsFault.2.1 67 = .ok (.ireturn, 1) := by decide +kernel
abbrev G_T_digitsFault_0 (l : Launch) (v : gs_V) (n : Nat) (post : Int32 → gs_S → Prop) (σ : gs_S) (x1 : Int32) : Prop := gG l v lyC 42 me_T_digitsFault n (qI v lyC 42 post) 0 [(0, .ref (v.2.2 1)), (1, .int x1)] [] σ
abbrev G_T_digitsFault_6 (l : Launch) (v : gs_V) (n : Nat) (post : Int32 → gs_S → Prop) (σ : gs_S) (x2 : Int32) (x3 : Int32) : Prop := gG l v lyC 42 me_T_digitsFault n (qI v lyC 42 post) 6 [(0, .ref (v.2.2 1)), (2, .int x2), (3, .int x3)] [] σ
abbrev G_T_digitsFault_46 (l : Launch) (v : gs_V) (n : Nat) (post : Int32 → gs_S → Prop) (σ : gs_S) (x3 : Int32) : Prop := gG l v lyC 42 me_T_digitsFault n (qI v lyC 42 post) 46 [(3, .int x3)] [] σ
abbrev G_T_digitsFault_67 (l : Launch) (v : gs_V) (n : Nat) (post : Int32 → gs_S → Prop) (σ : gs_S) (s0 : Int32) : Prop := gG l v lyC 42 me_T_digitsFault n (qI v lyC 42 post) 67 [] [.int s0] σ
set_option maxRecDepth 20000 in
set_option maxHeartbeats 1000000 in
theorem T_T_digitsFault_0 {l : Launch} {v : gs_V} {n : Nat} {post : Int32 → gs_S → Prop} {σ : gs_S} {x1 : Int32} (h : G_T_digitsFault_6 l v n post σ (3 + x1) 3) : G_T_digitsFault_0 l v n post σ x1 := by
  refine g_iconst d_T_digitsFault_0 (x := 3) (by decide) ?_
  refine g_iload_n d_T_digitsFault_1 1 rfl rfl ?_
  refine g_iadd d_T_digitsFault_2 ?_
  refine g_istore_n (L' := [(2, .int (3 + x1)), (0, .ref (v.2.2 1)), (1, .int x1)]) d_T_digitsFault_3 rfl (by decide) rfl ?_
  refine g_iconst d_T_digitsFault_4 (x := 3) (by decide) ?_
  refine g_istore_n (L' := [(3, .int 3), (2, .int (3 + x1)), (0, .ref (v.2.2 1)), (1, .int x1)]) d_T_digitsFault_5 rfl (by decide) rfl ?_
  exact g_sub [2, 1, 0] rfl h
set_option maxRecDepth 20000 in
set_option maxHeartbeats 1000000 in
theorem T_T_digitsFault_6 {l : Launch} {v : gs_V} {n : Nat} {post : Int32 → gs_S → Prop} {σ : gs_S} {x2 : Int32} {x3 : Int32} (h : ((x2 ≤ x3 → (((σ.1 1 2) ≤ x2 → G_T_digitsFault_67 l v n post σ ((-1))) ∧ (¬ (σ.1 1 2) ≤ x2 → G_T_digitsFault_67 l v n post σ x2))) ∧ (¬ x2 ≤ x3 → (((σ.1 1 2) ≤ x3 → G_T_digitsFault_46 l v n post σ x3) ∧ (¬ (σ.1 1 2) ≤ x3 → vp_in x3 64 ∧ (((σ.1 2 x3.toNatClampNeg) < 48 → G_T_digitsFault_46 l v n post σ x3) ∧ (¬ (σ.1 2 x3.toNatClampNeg) < 48 → vp_in x3 64 ∧ (((σ.1 2 x3.toNatClampNeg) < (48 + (σ.1 1 3)) → G_T_digitsFault_6 l v n post σ x2 (x3 + 1)) ∧ (¬ (σ.1 2 x3.toNatClampNeg) < (48 + (σ.1 1 3)) → G_T_digitsFault_46 l v n post σ x3))))))))) : G_T_digitsFault_6 l v n post σ x2 x3 := by
  refine g_iload_n d_T_digitsFault_6 2 rfl rfl ?_
  refine g_iload_n d_T_digitsFault_7 1 rfl rfl ?_
  refine g_icmp_ge (tgt := 54) d_T_digitsFault_8 rfl (fun hc => ?_) (fun hc => ?_)
  · have h := h.1 hc
    refine g_aload_n d_T_digitsFault_54 0 rfl rfl ?_
    refine g_getV (x := .int (σ.1 1 2)) d_T_digitsFault_55 fl_T_19 (by decide) rfl rfl rfl ?_
    refine g_iload_n d_T_digitsFault_58 1 rfl rfl ?_
    refine g_icmp_le (tgt := 66) d_T_digitsFault_59 rfl (fun hc => ?_) (fun hc => ?_)
    · have h := h.1 hc
      refine g_iconst d_T_digitsFault_66 (x := (-1)) (by decide) ?_
      exact g_sub [] rfl h
    · have h := h.2 hc
      refine g_iload_n d_T_digitsFault_62 1 rfl rfl ?_
      refine g_goto (tgt := 67) d_T_digitsFault_63 rfl ?_
      exact g_sub [] rfl h
  · have h := h.2 hc
    refine g_iload_n d_T_digitsFault_11 2 rfl rfl ?_
    refine g_aload_n d_T_digitsFault_12 0 rfl rfl ?_
    refine g_getV (x := .int (σ.1 1 2)) d_T_digitsFault_13 fl_T_19 (by decide) rfl rfl rfl ?_
    refine g_icmp_ge (tgt := 46) d_T_digitsFault_16 rfl (fun hc => ?_) (fun hc => ?_)
    · have h := h.1 hc
      exact g_sub [2] rfl h
    · have h := h.2 hc
      refine g_aload_n d_T_digitsFault_19 0 rfl rfl ?_
      refine g_getV (x := .ref (v.2.2 2)) d_T_digitsFault_20 fl_T_9 (by decide) rfl rfl rfl ?_
      refine g_iload_n d_T_digitsFault_23 2 rfl rfl ?_
      have hi1 := h.1
      have h := h.2
      refine g_cald (x := σ.1 2 x3.toNatClampNeg) d_T_digitsFault_24 (by decide) rfl hi1 rfl ?_
      refine g_bipush d_T_digitsFault_25 (x := 48) (by decide) ?_
      refine g_icmp_lt (tgt := 46) d_T_digitsFault_27 rfl (fun hc => ?_) (fun hc => ?_)
      · have h := h.1 hc
        exact g_sub [2] rfl h
      · have h := h.2 hc
        refine g_aload_n d_T_digitsFault_30 0 rfl rfl ?_
        refine g_getV (x := .ref (v.2.2 2)) d_T_digitsFault_31 fl_T_9 (by decide) rfl rfl rfl ?_
        refine g_iload_n d_T_digitsFault_34 2 rfl rfl ?_
        have hi2 := h.1
        have h := h.2
        refine g_cald (x := σ.1 2 x3.toNatClampNeg) d_T_digitsFault_35 (by decide) rfl hi2 rfl ?_
        refine g_bipush d_T_digitsFault_36 (x := 48) (by decide) ?_
        refine g_aload_n d_T_digitsFault_38 0 rfl rfl ?_
        refine g_getV (x := .int (σ.1 1 3)) d_T_digitsFault_39 fl_T_23 (by decide) rfl rfl rfl ?_
        refine g_iadd d_T_digitsFault_42 ?_
        refine g_icmp_lt (tgt := 48) d_T_digitsFault_43 rfl (fun hc => ?_) (fun hc => ?_)
        · have h := h.1 hc
          refine g_iinc (L' := [(3, .int (x3 + 1)), (0, .ref (v.2.2 1)), (2, .int x2)]) d_T_digitsFault_48 2 rfl (by rfl) (by decide) rfl ?_
          refine g_goto (tgt := 6) d_T_digitsFault_51 rfl ?_
          exact g_sub [1, 2, 0] rfl h
        · have h := h.2 hc
          exact g_sub [2] rfl h
set_option maxRecDepth 20000 in
set_option maxHeartbeats 1000000 in
theorem T_T_digitsFault_46 {l : Launch} {v : gs_V} {n : Nat} {post : Int32 → gs_S → Prop} {σ : gs_S} {x3 : Int32} (h : post x3 σ) : G_T_digitsFault_46 l v n post σ x3 := by
  refine g_iload_n d_T_digitsFault_46 0 rfl rfl ?_
  exact g_iret d_T_digitsFault_47 rfl h
set_option maxRecDepth 20000 in
set_option maxHeartbeats 1000000 in
theorem T_T_digitsFault_67 {l : Launch} {v : gs_V} {n : Nat} {post : Int32 → gs_S → Prop} {σ : gs_S} {s0 : Int32} (h : post s0 σ) : G_T_digitsFault_67 l v n post σ s0 := by
  exact g_iret d_T_digitsFault_67 rfl h
theorem E_T_digitsFault {l : Launch} {v : gs_V} {n : Nat} {post : Int32 → gs_S → Prop} {σ : gs_S} {x1 : Int32} (h : G_T_digitsFault_0 l v n post σ x1) : gM l v lyC 42 me_T_digitsFault (n + 1) [.ref (v.2.2 1), .int x1] σ (qI v lyC 42 post) := gM_of (by decide +kernel) (Nat.le_of_ble_eq_true rfl) h
/-! LineRules$Text.fault -/
theorem d_T_fault_0 : decode me_T_fault.2.1 0 = .ok (.iconst 0, 1) := by decide +kernel
theorem d_T_fault_1 : decode me_T_fault.2.1 1 = .ok (.istore_n 1, 1) := by decide +kernel
theorem d_T_fault_2 : decode me_T_fault.2.1 2 = .ok (.iload_n 1, 1) := by decide +kernel
theorem d_T_fault_3 : decode me_T_fault.2.1 3 = .ok (.iconst 3, 1) := by decide +kernel
theorem d_T_fault_4 : decode me_T_fault.2.1 4 = .ok (.if_icmp .ge 33, 3) := by decide +kernel
theorem d_T_fault_7 : decode me_T_fault.2.1 7 = .ok (.iload_n 1, 1) := by decide +kernel
theorem d_T_fault_8 : decode me_T_fault.2.1 8 = .ok (.aload_n 0, 1) := by decide +kernel
theorem d_T_fault_9 : decode me_T_fault.2.1 9 = .ok (.getfield 19, 3) := by decide +kernel
theorem d_T_fault_12 : decode me_T_fault.2.1 12 = .ok (.if_icmp .ge 17, 3) := by decide +kernel
theorem d_T_fault_15 : decode me_T_fault.2.1 15 = .ok (.aload_n 0, 1) := by decide +kernel
theorem d_T_fault_16 : decode me_T_fault.2.1 16 = .ok (.iload_n 1, 1) := by decide +kernel
theorem d_T_fault_17 : decode me_T_fault.2.1 17 = .ok (.aload_n 0, 1) := by decide +kernel
theorem d_T_fault_18 : decode me_T_fault.2.1 18 = .ok (.getfield 9, 3) := by decide +kernel
theorem d_T_fault_21 : decode me_T_fault.2.1 21 = .ok (.iload_n 1, 1) := by decide +kernel
theorem d_T_fault_22 : decode me_T_fault.2.1 22 = .ok (.caload, 1) := by decide +kernel
theorem d_T_fault_23 : decode me_T_fault.2.1 23 = .ok (.invokevirtual 51, 3) := by decide +kernel
theorem d_T_fault_26 : decode me_T_fault.2.1 26 = .ok (.ifCond .ne 5, 3) := by decide +kernel
theorem d_T_fault_29 : decode me_T_fault.2.1 29 = .ok (.iload_n 1, 1) := by decide +kernel
theorem d_T_fault_30 : decode me_T_fault.2.1 30 = .ok (.ireturn, 1) := by decide +kernel
theorem d_T_fault_31 : decode me_T_fault.2.1 31 = .ok (.iinc 1 1, 3) := by decide +kernel
theorem d_T_fault_34 : decode me_T_fault.2.1 34 = .ok (.goto (-32), 3) := by decide +kernel
theorem d_T_fault_37 : decode me_T_fault.2.1 37 = .ok (.aload_n 0, 1) := by decide +kernel
theorem d_T_fault_38 : decode me_T_fault.2.1 38 = .ok (.aload_n 0, 1) := by decide +kernel
theorem d_T_fault_39 : decode me_T_fault.2.1 39 = .ok (.getfield 9, 3) := by decide +kernel
theorem d_T_fault_42 : decode me_T_fault.2.1 42 = .ok (.iconst 0, 1) := by decide +kernel
theorem d_T_fault_43 : decode me_T_fault.2.1 43 = .ok (.caload, 1) := by decide +kernel
theorem d_T_fault_44 : decode me_T_fault.2.1 44 = .ok (.bipush 48, 2) := by decide +kernel
theorem d_T_fault_46 : decode me_T_fault.2.1 46 = .ok (.isub, 1) := by decide +kernel
theorem d_T_fault_47 : decode me_T_fault.2.1 47 = .ok (.putfield 23, 3) := by decide +kernel
theorem d_T_fault_50 : decode me_T_fault.2.1 50 = .ok (.aload_n 0, 1) := by decide +kernel
theorem d_T_fault_51 : decode me_T_fault.2.1 51 = .ok (.aload_n 0, 1) := by decide +kernel
theorem d_T_fault_52 : decode me_T_fault.2.1 52 = .ok (.getfield 9, 3) := by decide +kernel
theorem d_T_fault_55 : decode me_T_fault.2.1 55 = .ok (.iconst 1, 1) := by decide +kernel
theorem d_T_fault_56 : decode me_T_fault.2.1 56 = .ok (.caload, 1) := by decide +kernel
theorem d_T_fault_57 : decode me_T_fault.2.1 57 = .ok (.bipush 48, 2) := by decide +kernel
theorem d_T_fault_59 : decode me_T_fault.2.1 59 = .ok (.isub, 1) := by decide +kernel
theorem d_T_fault_60 : decode me_T_fault.2.1 60 = .ok (.putfield 26, 3) := by decide +kernel
theorem d_T_fault_63 : decode me_T_fault.2.1 63 = .ok (.aload_n 0, 1) := by decide +kernel
theorem d_T_fault_64 : decode me_T_fault.2.1 64 = .ok (.aload_n 0, 1) := by decide +kernel
theorem d_T_fault_65 : decode me_T_fault.2.1 65 = .ok (.getfield 9, 3) := by decide +kernel
theorem d_T_fault_68 : decode me_T_fault.2.1 68 = .ok (.iconst 2, 1) := by decide +kernel
theorem d_T_fault_69 : decode me_T_fault.2.1 69 = .ok (.caload, 1) := by decide +kernel
theorem d_T_fault_70 : decode me_T_fault.2.1 70 = .ok (.putfield 29, 3) := by decide +kernel
theorem d_T_fault_73 : decode me_T_fault.2.1 73 = .ok (.aload_n 0, 1) := by decide +kernel
theorem d_T_fault_74 : decode me_T_fault.2.1 74 = .ok (.getfield 29, 3) := by decide +kernel
theorem d_T_fault_77 : decode me_T_fault.2.1 77 = .ok (.lookupswitch 61 #[(83, 43), (84, 27)], 27) := by decide +kernel
theorem d_T_fault_104 : decode me_T_fault.2.1 104 = .ok (.aload_n 0, 1) := by decide +kernel
theorem d_T_fault_105 : decode me_T_fault.2.1 105 = .ok (.aload_n 0, 1) := by decide +kernel
theorem d_T_fault_106 : decode me_T_fault.2.1 106 = .ok (.getfield 23, 3) := by decide +kernel
theorem d_T_fault_109 : decode me_T_fault.2.1 109 = .ok (.aload_n 0, 1) := by decide +kernel
theorem d_T_fault_110 : decode me_T_fault.2.1 110 = .ok (.getfield 26, 3) := by decide +kernel
theorem d_T_fault_113 : decode me_T_fault.2.1 113 = .ok (.invokestatic 55, 3) := by decide +kernel
theorem d_T_fault_116 : decode me_T_fault.2.1 116 = .ok (.invokevirtual 59, 3) := by decide +kernel
theorem d_T_fault_119 : decode me_T_fault.2.1 119 = .ok (.ireturn, 1) := by decide +kernel
theorem d_T_fault_120 : decode me_T_fault.2.1 120 = .ok (.aload_n 0, 1) := by decide +kernel
theorem d_T_fault_121 : decode me_T_fault.2.1 121 = .ok (.aload_n 0, 1) := by decide +kernel
theorem d_T_fault_122 : decode me_T_fault.2.1 122 = .ok (.getfield 26, 3) := by decide +kernel
theorem d_T_fault_125 : decode me_T_fault.2.1 125 = .ok (.aload_n 0, 1) := by decide +kernel
theorem d_T_fault_126 : decode me_T_fault.2.1 126 = .ok (.getfield 23, 3) := by decide +kernel
theorem d_T_fault_129 : decode me_T_fault.2.1 129 = .ok (.iconst 1, 1) := by decide +kernel
theorem d_T_fault_130 : decode me_T_fault.2.1 130 = .ok (.isub, 1) := by decide +kernel
theorem d_T_fault_131 : decode me_T_fault.2.1 131 = .ok (.imul, 1) := by decide +kernel
theorem d_T_fault_132 : decode me_T_fault.2.1 132 = .ok (.iconst 1, 1) := by decide +kernel
theorem d_T_fault_133 : decode me_T_fault.2.1 133 = .ok (.iadd, 1) := by decide +kernel
theorem d_T_fault_134 : decode me_T_fault.2.1 134 = .ok (.invokevirtual 59, 3) := by decide +kernel
theorem d_T_fault_137 : decode me_T_fault.2.1 137 = .ok (.ireturn, 1) := by decide +kernel
theorem d_T_fault_138 : decode me_T_fault.2.1 138 = .ok (.aload_n 0, 1) := by decide +kernel
theorem d_T_fault_139 : decode me_T_fault.2.1 139 = .ok (.iconst 0, 1) := by decide +kernel
theorem d_T_fault_140 : decode me_T_fault.2.1 140 = .ok (.invokevirtual 63, 3) := by decide +kernel
theorem d_T_fault_143 : decode me_T_fault.2.1 143 = .ok (.pop, 1) := by decide +kernel
theorem d_T_fault_144 : decode me_T_fault.2.1 144 = .ok (.aload_n 0, 1) := by decide +kernel
theorem d_T_fault_145 : decode me_T_fault.2.1 145 = .ok (.getfield 39, 3) := by decide +kernel
theorem d_T_fault_148 : decode me_T_fault.2.1 148 = .ok (.ifCond .ne 14, 3) := by decide +kernel
theorem d_T_fault_151 : decode me_T_fault.2.1 151 = .ok (.aload_n 0, 1) := by decide +kernel
theorem d_T_fault_152 : decode me_T_fault.2.1 152 = .ok (.getfield 33, 3) := by decide +kernel
theorem d_T_fault_155 : decode me_T_fault.2.1 155 = .ok (.aload_n 0, 1) := by decide +kernel
theorem d_T_fault_156 : decode me_T_fault.2.1 156 = .ok (.getfield 19, 3) := by decide +kernel
theorem d_T_fault_159 : decode me_T_fault.2.1 159 = .ok (.if_icmp .ge 10, 3) := by decide +kernel
theorem d_T_fault_162 : decode me_T_fault.2.1 162 = .ok (.aload_n 0, 1) := by decide +kernel
theorem d_T_fault_163 : decode me_T_fault.2.1 163 = .ok (.getfield 33, 3) := by decide +kernel
theorem d_T_fault_166 : decode me_T_fault.2.1 166 = .ok (.goto 4, 3) := by decide +kernel
theorem d_T_fault_169 : decode me_T_fault.2.1 169 = .ok (.iconst (-1), 1) := by decide +kernel
theorem d_T_fault_170 : decode me_T_fault.2.1 170 = .ok (.ireturn, 1) := by decide +kernel
abbrev G_T_fault_0 (l : Launch) (v : gs_V) (n : Nat) (post : Int32 → gs_S → Prop) (σ : gs_S) : Prop := gG l v lyC 42 me_T_fault n (qI v lyC 42 post) 0 [(0, .ref (v.2.2 1))] [] σ
abbrev G_T_fault_2 (l : Launch) (v : gs_V) (n : Nat) (post : Int32 → gs_S → Prop) (σ : gs_S) (x1 : Int32) : Prop := gG l v lyC 42 me_T_fault n (qI v lyC 42 post) 2 [(0, .ref (v.2.2 1)), (1, .int x1)] [] σ
abbrev G_T_fault_29 (l : Launch) (v : gs_V) (n : Nat) (post : Int32 → gs_S → Prop) (σ : gs_S) (x1 : Int32) : Prop := gG l v lyC 42 me_T_fault n (qI v lyC 42 post) 29 [(1, .int x1)] [] σ
abbrev G_T_fault_162 (l : Launch) (v : gs_V) (n : Nat) (post : Int32 → gs_S → Prop) (σ : gs_S) : Prop := gG l v lyC 42 me_T_fault n (qI v lyC 42 post) 162 [(0, .ref (v.2.2 1))] [] σ
abbrev G_T_fault_170 (l : Launch) (v : gs_V) (n : Nat) (post : Int32 → gs_S → Prop) (σ : gs_S) (s0 : Int32) : Prop := gG l v lyC 42 me_T_fault n (qI v lyC 42 post) 170 [] [.int s0] σ
set_option maxRecDepth 20000 in
set_option maxHeartbeats 1000000 in
theorem T_T_fault_0 {l : Launch} {v : gs_V} {n : Nat} {post : Int32 → gs_S → Prop} {σ : gs_S} (h : G_T_fault_2 l v n post σ 0) : G_T_fault_0 l v n post σ := by
  refine g_iconst d_T_fault_0 (x := 0) (by decide) ?_
  refine g_istore_n (L' := [(1, .int 0), (0, .ref (v.2.2 1))]) d_T_fault_1 rfl (by decide) rfl ?_
  exact g_sub [1, 0] rfl h
set_option maxRecDepth 20000 in
set_option maxHeartbeats 1000000 in
theorem T_T_fault_2 {l : Launch} {v : gs_V} {n : Nat} {post : Int32 → gs_S → Prop} {σ : gs_S} {x1 : Int32} (h : ((3 ≤ x1 → (narrow .char (.int (σ.1 2 2)) = .int (σ.1 2 2) ∧ fits .char (.int (σ.1 2 2)) = true) ∧ (((σ.1 2 2) = 83 → gM l v lyC 42 me_T_digitsFault n [.ref (v.2.2 1), .int ((((σ.1 2 1) - 48) * (((σ.1 2 0) - 48) - 1)) + 1)] (gs_pI (gs_pI (gs_pI σ 1 3 ((σ.1 2 0) - 48)) 1 4 ((σ.1 2 1) - 48)) 1 5 (σ.1 2 2)) (qI v lyC 42 (fun r1 σ1 => post r1 σ1))) ∧ ((σ.1 2 2) = 84 → gM l v lyC 42 me_A_power n [.int ((σ.1 2 0) - 48), .int ((σ.1 2 1) - 48)] (gs_pI (gs_pI (gs_pI σ 1 3 ((σ.1 2 0) - 48)) 1 4 ((σ.1 2 1) - 48)) 1 5 (σ.1 2 2)) (qI v lyC 42 (fun r2 σ2 => gM l v lyC 42 me_T_digitsFault n [.ref (v.2.2 1), .int r2] σ2 (qI v lyC 42 (fun r3 σ3 => post r3 σ3))))) ∧ (¬ (σ.1 2 2) = 83 → ¬ (σ.1 2 2) = 84 → gM l v lyC 42 me_T_valueFor n [.ref (v.2.2 1), .int 0] (gs_pI (gs_pI (gs_pI σ 1 3 ((σ.1 2 0) - 48)) 1 4 ((σ.1 2 1) - 48)) 1 5 (σ.1 2 2)) (qI v lyC 42 (fun r4 σ4 => ((¬ (σ4.1 1 8) = 0 → G_T_fault_162 l v n post σ4) ∧ ((σ4.1 1 8) = 0 → (((σ4.1 1 2) ≤ (σ4.1 1 6) → G_T_fault_170 l v n post σ4 ((-1))) ∧ (¬ (σ4.1 1 2) ≤ (σ4.1 1 6) → G_T_fault_162 l v n post σ4))))))))) ∧ (¬ 3 ≤ x1 → (((σ.1 1 2) ≤ x1 → G_T_fault_29 l v n post σ x1) ∧ (¬ (σ.1 1 2) ≤ x1 → vp_in x1 64 ∧ gM l v lyC 42 me_T_fitsHead n [.ref (v.2.2 1), .int x1, .int (σ.1 2 x1.toNatClampNeg)] σ (qI v lyC 42 (fun r6 σ6 => ((¬ r6 = 0 → G_T_fault_2 l v n post σ6 (x1 + 1)) ∧ (r6 = 0 → G_T_fault_29 l v n post σ6 x1))))))))) : G_T_fault_2 l v n post σ x1 := by
  refine g_iload_n d_T_fault_2 1 rfl rfl ?_
  refine g_iconst d_T_fault_3 (x := 3) (by decide) ?_
  refine g_icmp_ge (tgt := 37) d_T_fault_4 rfl (fun hc => ?_) (fun hc => ?_)
  · have h := h.1 hc
    refine g_aload_n d_T_fault_37 0 rfl rfl ?_
    refine g_aload_n d_T_fault_38 0 rfl rfl ?_
    refine g_getV (x := .ref (v.2.2 2)) d_T_fault_39 fl_T_9 (by decide) rfl rfl rfl ?_
    refine g_iconst d_T_fault_42 (x := 0) (by decide) ?_
    refine g_cald (x := σ.1 2 0) d_T_fault_43 (by decide) rfl (g_lit (k := 0) (by decide) (by decide)) rfl ?_
    refine g_bipush d_T_fault_44 (x := 48) (by decide) ?_
    refine g_isub d_T_fault_46 ?_
    refine g_putI d_T_fault_47 fp_T_23 (by decide) rfl rfl ⟨rfl, rfl⟩ ?_
    refine g_aload_n d_T_fault_50 0 rfl rfl ?_
    refine g_aload_n d_T_fault_51 0 rfl rfl ?_
    refine g_getV (x := .ref (v.2.2 2)) d_T_fault_52 fl_T_9 (by decide) rfl rfl rfl ?_
    refine g_iconst d_T_fault_55 (x := 1) (by decide) ?_
    refine g_cald (x := σ.1 2 1) d_T_fault_56 (by decide) rfl (g_lit (k := 1) (by decide) (by decide)) rfl ?_
    refine g_bipush d_T_fault_57 (x := 48) (by decide) ?_
    refine g_isub d_T_fault_59 ?_
    refine g_putI d_T_fault_60 fp_T_26 (by decide) rfl rfl ⟨rfl, rfl⟩ ?_
    refine g_aload_n d_T_fault_63 0 rfl rfl ?_
    refine g_aload_n d_T_fault_64 0 rfl rfl ?_
    refine g_getV (x := .ref (v.2.2 2)) d_T_fault_65 fl_T_9 (by decide) rfl rfl rfl ?_
    refine g_iconst d_T_fault_68 (x := 2) (by decide) ?_
    refine g_cald (x := σ.1 2 2) d_T_fault_69 (by decide) rfl (g_lit (k := 2) (by decide) (by decide)) rfl ?_
    have hnf := h.1
    have h := h.2
    refine g_putI d_T_fault_70 fp_T_29 (by decide) rfl rfl hnf ?_
    refine g_aload_n d_T_fault_73 0 rfl rfl ?_
    refine g_getV (x := .int (σ.1 2 2)) d_T_fault_74 fl_T_29 (by decide) rfl rfl rfl ?_
    by_cases hk0 : (σ.1 2 2) = 83
    · refine g_lookup (tgt := 120) d_T_fault_77 (by decide +kernel) (by rw [hk0] <;> decide +kernel) rfl ?_
      have h := h.1 hk0
      refine g_aload_n d_T_fault_120 0 rfl rfl ?_
      refine g_aload_n d_T_fault_121 0 rfl rfl ?_
      refine g_getV (x := .int ((σ.1 2 1) - 48)) d_T_fault_122 fl_T_26 (by decide) rfl rfl rfl ?_
      refine g_aload_n d_T_fault_125 0 rfl rfl ?_
      refine g_getV (x := .int ((σ.1 2 0) - 48)) d_T_fault_126 fl_T_23 (by decide) rfl rfl rfl ?_
      refine g_iconst d_T_fault_129 (x := 1) (by decide) ?_
      refine g_isub d_T_fault_130 ?_
      refine g_imul d_T_fault_131 ?_
      refine g_iconst d_T_fault_132 (x := 1) (by decide) ?_
      refine g_iadd d_T_fault_133 ?_
      refine g_callVi (av := [.int ((((σ.1 2 1) - 48) * (((σ.1 2 0) - 48) - 1)) + 1)]) (rest := []) d_T_fault_134 Y_T_digitsFault lk_T_59 (by decide) rfl rfl I_T_digitsFault rfl (Nat.le_of_ble_eq_true rfl) rfl h (fun r1 σ1 h => ?_)
      exact g_iret d_T_fault_137 rfl h
    have h := h.2
    by_cases hk1 : (σ.1 2 2) = 84
    · refine g_lookup (tgt := 104) d_T_fault_77 (by decide +kernel) (by rw [hk1] <;> decide +kernel) rfl ?_
      have h := h.1 hk1
      refine g_aload_n d_T_fault_104 0 rfl rfl ?_
      refine g_aload_n d_T_fault_105 0 rfl rfl ?_
      refine g_getV (x := .int ((σ.1 2 0) - 48)) d_T_fault_106 fl_T_23 (by decide) rfl rfl rfl ?_
      refine g_aload_n d_T_fault_109 0 rfl rfl ?_
      refine g_getV (x := .int ((σ.1 2 1) - 48)) d_T_fault_110 fl_T_26 (by decide) rfl rfl rfl ?_
      refine g_callSNi (av := [.int ((σ.1 2 0) - 48), .int ((σ.1 2 1) - 48)]) (rest := [.ref (v.2.2 1)]) d_T_fault_113 Y_A_power lk_T_55 I_A_power rfl (Nat.le_of_ble_eq_true rfl) rfl h (fun r2 σ2 h => ?_)
      refine g_callVi (av := [.int r2]) (rest := []) d_T_fault_116 Y_T_digitsFault lk_T_59 (by decide) rfl rfl I_T_digitsFault rfl (Nat.le_of_ble_eq_true rfl) rfl h (fun r3 σ3 h => ?_)
      exact g_iret d_T_fault_119 rfl h
    have h := h.2
    refine g_lookup (tgt := 138) d_T_fault_77 (by decide +kernel) (by show Op.lookupswitch.offset [(83, 43), (84, 27)] _ _ = _; rw [lv_osw hk0 (by decide +kernel), lv_osw hk1 (by decide +kernel)] <;> rfl) rfl ?_
    have h := h hk0 hk1
    refine g_aload_n d_T_fault_138 0 rfl rfl ?_
    refine g_iconst d_T_fault_139 (x := 0) (by decide) ?_
    refine g_callVi (av := [.int 0]) (rest := []) d_T_fault_140 Y_T_valueFor lk_T_63 (by decide) rfl rfl I_T_valueFor rfl (Nat.le_of_ble_eq_true rfl) rfl h (fun r4 σ4 h => ?_)
    refine g_pop d_T_fault_143 rfl ?_
    refine g_aload_n d_T_fault_144 0 rfl rfl ?_
    refine g_getV (x := .int (σ4.1 1 8)) d_T_fault_145 fl_T_39 (by decide) rfl rfl rfl ?_
    refine g_if_ne (tgt := 162) d_T_fault_148 rfl (fun hc => ?_) (fun hc => ?_)
    · have h := h.1 hc
      exact g_sub [0] rfl h
    · have h := h.2 hc
      refine g_aload_n d_T_fault_151 0 rfl rfl ?_
      refine g_getV (x := .int (σ4.1 1 6)) d_T_fault_152 fl_T_33 (by decide) rfl rfl rfl ?_
      refine g_aload_n d_T_fault_155 0 rfl rfl ?_
      refine g_getV (x := .int (σ4.1 1 2)) d_T_fault_156 fl_T_19 (by decide) rfl rfl rfl ?_
      refine g_icmp_ge (tgt := 169) d_T_fault_159 rfl (fun hc => ?_) (fun hc => ?_)
      · have h := h.1 hc
        refine g_iconst d_T_fault_169 (x := (-1)) (by decide) ?_
        exact g_sub [] rfl h
      · have h := h.2 hc
        exact g_sub [0] rfl h
  · have h := h.2 hc
    refine g_iload_n d_T_fault_7 1 rfl rfl ?_
    refine g_aload_n d_T_fault_8 0 rfl rfl ?_
    refine g_getV (x := .int (σ.1 1 2)) d_T_fault_9 fl_T_19 (by decide) rfl rfl rfl ?_
    refine g_icmp_ge (tgt := 29) d_T_fault_12 rfl (fun hc => ?_) (fun hc => ?_)
    · have h := h.1 hc
      exact g_sub [1] rfl h
    · have h := h.2 hc
      refine g_aload_n d_T_fault_15 0 rfl rfl ?_
      refine g_iload_n d_T_fault_16 1 rfl rfl ?_
      refine g_aload_n d_T_fault_17 0 rfl rfl ?_
      refine g_getV (x := .ref (v.2.2 2)) d_T_fault_18 fl_T_9 (by decide) rfl rfl rfl ?_
      refine g_iload_n d_T_fault_21 1 rfl rfl ?_
      have hi5 := h.1
      have h := h.2
      refine g_cald (x := σ.1 2 x1.toNatClampNeg) d_T_fault_22 (by decide) rfl hi5 rfl ?_
      refine g_callVi (av := [.int x1, .int (σ.1 2 x1.toNatClampNeg)]) (rest := []) d_T_fault_23 Y_T_fitsHead lk_T_51 (by decide) rfl rfl I_T_fitsHead rfl (Nat.le_of_ble_eq_true rfl) rfl h (fun r6 σ6 h => ?_)
      refine g_if_ne (tgt := 31) d_T_fault_26 rfl (fun hc => ?_) (fun hc => ?_)
      · have h := h.1 hc
        refine g_iinc (L' := [(1, .int (x1 + 1)), (0, .ref (v.2.2 1))]) d_T_fault_31 1 rfl (by rfl) (by decide) rfl ?_
        refine g_goto (tgt := 2) d_T_fault_34 rfl ?_
        exact g_sub [1, 0] rfl h
      · have h := h.2 hc
        exact g_sub [1] rfl h
set_option maxRecDepth 20000 in
set_option maxHeartbeats 1000000 in
theorem T_T_fault_29 {l : Launch} {v : gs_V} {n : Nat} {post : Int32 → gs_S → Prop} {σ : gs_S} {x1 : Int32} (h : post x1 σ) : G_T_fault_29 l v n post σ x1 := by
  refine g_iload_n d_T_fault_29 0 rfl rfl ?_
  exact g_iret d_T_fault_30 rfl h
set_option maxRecDepth 20000 in
set_option maxHeartbeats 1000000 in
theorem T_T_fault_162 {l : Launch} {v : gs_V} {n : Nat} {post : Int32 → gs_S → Prop} {σ : gs_S} (h : G_T_fault_170 l v n post σ (σ.1 1 6)) : G_T_fault_162 l v n post σ := by
  refine g_aload_n d_T_fault_162 0 rfl rfl ?_
  refine g_getV (x := .int (σ.1 1 6)) d_T_fault_163 fl_T_33 (by decide) rfl rfl rfl ?_
  refine g_goto (tgt := 170) d_T_fault_166 rfl ?_
  exact g_sub [] rfl h
set_option maxRecDepth 20000 in
set_option maxHeartbeats 1000000 in
theorem T_T_fault_170 {l : Launch} {v : gs_V} {n : Nat} {post : Int32 → gs_S → Prop} {σ : gs_S} {s0 : Int32} (h : post s0 σ) : G_T_fault_170 l v n post σ s0 := by
  exact g_iret d_T_fault_170 rfl h
theorem E_T_fault {l : Launch} {v : gs_V} {n : Nat} {post : Int32 → gs_S → Prop} {σ : gs_S} (h : G_T_fault_0 l v n post σ) : gM l v lyC 42 me_T_fault (n + 1) [.ref (v.2.2 1)] σ (qI v lyC 42 post) := gM_of (by decide +kernel) (Nat.le_of_ble_eq_true rfl) h
/-! LineRules$Text.fill -/
theorem d_T_fill_0 : decode me_T_fill.2.1 0 = .ok (.aload_n 1, 1) := by decide +kernel
theorem d_T_fill_1 : decode me_T_fill.2.1 1 = .ok (.aload_n 0, 1) := by decide +kernel
theorem d_T_fill_2 : decode me_T_fill.2.1 2 = .ok (.getfield 23, 3) := by decide +kernel
theorem d_T_fill_5 : decode me_T_fill.2.1 5 = .ok (.aload_n 0, 1) := by decide +kernel
theorem d_T_fill_6 : decode me_T_fill.2.1 6 = .ok (.getfield 26, 3) := by decide +kernel
theorem d_T_fill_9 : decode me_T_fill.2.1 9 = .ok (.invokevirtual 66, 3) := by decide +kernel
theorem d_T_fill_12 : decode me_T_fill.2.1 12 = .ok (.iconst 0, 1) := by decide +kernel
theorem d_T_fill_13 : decode me_T_fill.2.1 13 = .ok (.istore_n 2, 1) := by decide +kernel
theorem d_T_fill_14 : decode me_T_fill.2.1 14 = .ok (.iload_n 2, 1) := by decide +kernel
theorem d_T_fill_15 : decode me_T_fill.2.1 15 = .ok (.aload_n 1, 1) := by decide +kernel
theorem d_T_fill_16 : decode me_T_fill.2.1 16 = .ok (.getfield 72, 3) := by decide +kernel
theorem d_T_fill_19 : decode me_T_fill.2.1 19 = .ok (.if_icmp .ge 20, 3) := by decide +kernel
theorem d_T_fill_22 : decode me_T_fill.2.1 22 = .ok (.aload_n 1, 1) := by decide +kernel
theorem d_T_fill_23 : decode me_T_fill.2.1 23 = .ok (.getfield 75, 3) := by decide +kernel
theorem d_T_fill_26 : decode me_T_fill.2.1 26 = .ok (.iload_n 2, 1) := by decide +kernel
theorem d_T_fill_27 : decode me_T_fill.2.1 27 = .ok (.aload_n 0, 1) := by decide +kernel
theorem d_T_fill_28 : decode me_T_fill.2.1 28 = .ok (.iload_n 2, 1) := by decide +kernel
theorem d_T_fill_29 : decode me_T_fill.2.1 29 = .ok (.invokevirtual 78, 3) := by decide +kernel
theorem d_T_fill_32 : decode me_T_fill.2.1 32 = .ok (.iastore, 1) := by decide +kernel
theorem d_T_fill_33 : decode me_T_fill.2.1 33 = .ok (.iinc 2 1, 3) := by decide +kernel
theorem d_T_fill_36 : decode me_T_fill.2.1 36 = .ok (.goto (-22), 3) := by decide +kernel
theorem d_T_fill_39 : decode me_T_fill.2.1 39 = .ok (.aload_n 1, 1) := by decide +kernel
theorem d_T_fill_40 : decode me_T_fill.2.1 40 = .ok (.invokevirtual 81, 3) := by decide +kernel
theorem d_T_fill_43 : decode me_T_fill.2.1 43 = .ok (.return_, 1) := by decide +kernel
abbrev G_T_fill_0 (l : Launch) (v : gs_V) (n : Nat) (post : gs_S → Prop) (σ : gs_S) : Prop := gG l v lyC 42 me_T_fill n (qV v lyC 42 post) 0 [(0, .ref (v.2.2 1)), (1, .ref (v.2.2 4))] [] σ
abbrev G_T_fill_14 (l : Launch) (v : gs_V) (n : Nat) (post : gs_S → Prop) (σ : gs_S) (x2 : Int32) : Prop := gG l v lyC 42 me_T_fill n (qV v lyC 42 post) 14 [(0, .ref (v.2.2 1)), (1, .ref (v.2.2 4)), (2, .int x2)] [] σ
set_option maxRecDepth 20000 in
set_option maxHeartbeats 1000000 in
theorem T_T_fill_0 {l : Launch} {v : gs_V} {n : Nat} {post : gs_S → Prop} {σ : gs_S} (h : gM l v lyC 42 me_R_shape n [.ref (v.2.2 4), .int (σ.1 1 3), .int (σ.1 1 4)] σ (qV v lyC 42 (fun σ1 => G_T_fill_14 l v n post σ1 0))) : G_T_fill_0 l v n post σ := by
  refine g_aload_n d_T_fill_0 1 rfl rfl ?_
  refine g_aload_n d_T_fill_1 0 rfl rfl ?_
  refine g_getV (x := .int (σ.1 1 3)) d_T_fill_2 fl_T_23 (by decide) rfl rfl rfl ?_
  refine g_aload_n d_T_fill_5 0 rfl rfl ?_
  refine g_getV (x := .int (σ.1 1 4)) d_T_fill_6 fl_T_26 (by decide) rfl rfl rfl ?_
  refine g_callVv (av := [.int (σ.1 1 3), .int (σ.1 1 4)]) (rest := []) d_T_fill_9 Y_R_shape lk_T_66 (by decide) rfl rfl I_R_shape rfl (Nat.le_of_ble_eq_true rfl) rfl h (fun σ1 h => ?_)
  refine g_iconst d_T_fill_12 (x := 0) (by decide) ?_
  refine g_istore_n (L' := [(2, .int 0), (0, .ref (v.2.2 1)), (1, .ref (v.2.2 4))]) d_T_fill_13 rfl (by decide) rfl ?_
  exact g_sub [1, 2, 0] rfl h
set_option maxRecDepth 20000 in
set_option maxHeartbeats 1000000 in
theorem T_T_fill_14 {l : Launch} {v : gs_V} {n : Nat} {post : gs_S → Prop} {σ : gs_S} {x2 : Int32} (h : (((σ.1 4 8) ≤ x2 → gM l v lyC 42 me_R_complete n [.ref (v.2.2 4)] σ (qV v lyC 42 (fun σ1 => post σ1))) ∧ (¬ (σ.1 4 8) ≤ x2 → gM l v lyC 42 me_T_made n [.ref (v.2.2 1), .int x2] σ (qI v lyC 42 (fun r2 σ2 => vp_in x2 256 ∧ G_T_fill_14 l v n post (gs_pI σ2 5 x2.toNatClampNeg r2) (x2 + 1)))))) : G_T_fill_14 l v n post σ x2 := by
  refine g_iload_n d_T_fill_14 2 rfl rfl ?_
  refine g_aload_n d_T_fill_15 1 rfl rfl ?_
  refine g_getV (x := .int (σ.1 4 8)) d_T_fill_16 fl_T_72 (by decide) rfl rfl rfl ?_
  refine g_icmp_ge (tgt := 39) d_T_fill_19 rfl (fun hc => ?_) (fun hc => ?_)
  · have h := h.1 hc
    refine g_aload_n d_T_fill_39 1 rfl rfl ?_
    refine g_callVv (av := []) (rest := []) d_T_fill_40 Y_R_complete lk_T_81 (by decide) rfl rfl I_R_complete rfl (Nat.le_of_ble_eq_true rfl) rfl h (fun σ1 h => ?_)
    exact g_vret d_T_fill_43 rfl h
  · have h := h.2 hc
    refine g_aload_n d_T_fill_22 1 rfl rfl ?_
    refine g_getV (x := .ref (v.2.2 5)) d_T_fill_23 fl_T_75 (by decide) rfl rfl rfl ?_
    refine g_iload_n d_T_fill_26 2 rfl rfl ?_
    refine g_aload_n d_T_fill_27 0 rfl rfl ?_
    refine g_iload_n d_T_fill_28 2 rfl rfl ?_
    refine g_callVi (av := [.int x2]) (rest := [.int x2, .ref (v.2.2 5)]) d_T_fill_29 Y_T_made lk_T_78 (by decide) rfl rfl I_T_made rfl (Nat.le_of_ble_eq_true rfl) rfl h (fun r2 σ2 h => ?_)
    have hi3 := h.1
    have h := h.2
    refine g_iast d_T_fill_32 (by decide) rfl hi3 ?_
    refine g_iinc (L' := [(2, .int (x2 + 1)), (0, .ref (v.2.2 1)), (1, .ref (v.2.2 4))]) d_T_fill_33 2 rfl (by rfl) (by decide) rfl ?_
    refine g_goto (tgt := 14) d_T_fill_36 rfl ?_
    exact g_sub [1, 2, 0] rfl h
theorem E_T_fill {l : Launch} {v : gs_V} {n : Nat} {post : gs_S → Prop} {σ : gs_S} (h : G_T_fill_0 l v n post σ) : gM l v lyC 42 me_T_fill (n + 1) [.ref (v.2.2 1), .ref (v.2.2 4)] σ (qV v lyC 42 post) := gM_of (by decide +kernel) (Nat.le_of_ble_eq_true rfl) h
/-! LineRules$Text.fitsHead -/
theorem d_T_fitsHead_0 : decode me_T_fitsHead.2.1 0 = .ok (.iload_n 1, 1) := by decide +kernel
theorem d_T_fitsHead_1 : decode me_T_fitsHead.2.1 1 = .ok (.lookupswitch 63 #[(0, 27), (1, 45)], 27) := by decide +kernel
theorem d_T_fitsHead_28 : decode me_T_fitsHead.2.1 28 = .ok (.iload_n 2, 1) := by decide +kernel
theorem d_T_fitsHead_29 : decode me_T_fitsHead.2.1 29 = .ok (.bipush 50, 2) := by decide +kernel
theorem d_T_fitsHead_31 : decode me_T_fitsHead.2.1 31 = .ok (.if_icmp .lt 13, 3) := by decide +kernel
theorem d_T_fitsHead_34 : decode me_T_fitsHead.2.1 34 = .ok (.iload_n 2, 1) := by decide +kernel
theorem d_T_fitsHead_35 : decode me_T_fitsHead.2.1 35 = .ok (.bipush 52, 2) := by decide +kernel
theorem d_T_fitsHead_37 : decode me_T_fitsHead.2.1 37 = .ok (.if_icmp .gt 7, 3) := by decide +kernel
theorem d_T_fitsHead_40 : decode me_T_fitsHead.2.1 40 = .ok (.iconst 1, 1) := by decide +kernel
theorem d_T_fitsHead_41 : decode me_T_fitsHead.2.1 41 = .ok (.goto 4, 3) := by decide +kernel
theorem d_T_fitsHead_44 : decode me_T_fitsHead.2.1 44 = .ok (.iconst 0, 1) := by decide +kernel
theorem d_T_fitsHead_45 : decode me_T_fitsHead.2.1 45 = .ok (.ireturn, 1) := by decide +kernel
theorem d_T_fitsHead_46 : decode me_T_fitsHead.2.1 46 = .ok (.iload_n 2, 1) := by decide +kernel
theorem d_T_fitsHead_47 : decode me_T_fitsHead.2.1 47 = .ok (.bipush 49, 2) := by decide +kernel
theorem d_T_fitsHead_49 : decode me_T_fitsHead.2.1 49 = .ok (.if_icmp .lt 13, 3) := by decide +kernel
theorem d_T_fitsHead_52 : decode me_T_fitsHead.2.1 52 = .ok (.iload_n 2, 1) := by decide +kernel
theorem d_T_fitsHead_53 : decode me_T_fitsHead.2.1 53 = .ok (.bipush 52, 2) := by decide +kernel
theorem d_T_fitsHead_55 : decode me_T_fitsHead.2.1 55 = .ok (.if_icmp .gt 7, 3) := by decide +kernel
theorem d_T_fitsHead_58 : decode me_T_fitsHead.2.1 58 = .ok (.iconst 1, 1) := by decide +kernel
theorem d_T_fitsHead_59 : decode me_T_fitsHead.2.1 59 = .ok (.goto 4, 3) := by decide +kernel
theorem d_T_fitsHead_62 : decode me_T_fitsHead.2.1 62 = .ok (.iconst 0, 1) := by decide +kernel
theorem d_T_fitsHead_63 : decode me_T_fitsHead.2.1 63 = .ok (.ireturn, 1) := by decide +kernel
theorem d_T_fitsHead_64 : decode me_T_fitsHead.2.1 64 = .ok (.iload_n 2, 1) := by decide +kernel
theorem d_T_fitsHead_65 : decode me_T_fitsHead.2.1 65 = .ok (.bipush 84, 2) := by decide +kernel
theorem d_T_fitsHead_67 : decode me_T_fitsHead.2.1 67 = .ok (.if_icmp .eq 15, 3) := by decide +kernel
theorem d_T_fitsHead_70 : decode me_T_fitsHead.2.1 70 = .ok (.iload_n 2, 1) := by decide +kernel
theorem d_T_fitsHead_71 : decode me_T_fitsHead.2.1 71 = .ok (.bipush 83, 2) := by decide +kernel
theorem d_T_fitsHead_73 : decode me_T_fitsHead.2.1 73 = .ok (.if_icmp .eq 9, 3) := by decide +kernel
theorem d_T_fitsHead_76 : decode me_T_fitsHead.2.1 76 = .ok (.iload_n 2, 1) := by decide +kernel
theorem d_T_fitsHead_77 : decode me_T_fitsHead.2.1 77 = .ok (.bipush 69, 2) := by decide +kernel
theorem d_T_fitsHead_79 : decode me_T_fitsHead.2.1 79 = .ok (.if_icmp .ne 7, 3) := by decide +kernel
theorem d_T_fitsHead_82 : decode me_T_fitsHead.2.1 82 = .ok (.iconst 1, 1) := by decide +kernel
theorem d_T_fitsHead_83 : decode me_T_fitsHead.2.1 83 = .ok (.goto 4, 3) := by decide +kernel
theorem d_T_fitsHead_86 : decode me_T_fitsHead.2.1 86 = .ok (.iconst 0, 1) := by decide +kernel
theorem d_T_fitsHead_87 : decode me_T_fitsHead.2.1 87 = .ok (.ireturn, 1) := by decide +kernel
abbrev G_T_fitsHead_0 (l : Launch) (v : gs_V) (n : Nat) (post : Int32 → gs_S → Prop) (σ : gs_S) (x1 : Int32) (x2 : Int32) : Prop := gG l v lyC 42 me_T_fitsHead n (qI v lyC 42 post) 0 [(0, .ref (v.2.2 1)), (1, .int x1), (2, .int x2)] [] σ
abbrev G_T_fitsHead_44 (l : Launch) (v : gs_V) (n : Nat) (post : Int32 → gs_S → Prop) (σ : gs_S) : Prop := gG l v lyC 42 me_T_fitsHead n (qI v lyC 42 post) 44 [] [] σ
abbrev G_T_fitsHead_45 (l : Launch) (v : gs_V) (n : Nat) (post : Int32 → gs_S → Prop) (σ : gs_S) (s0 : Int32) : Prop := gG l v lyC 42 me_T_fitsHead n (qI v lyC 42 post) 45 [] [.int s0] σ
abbrev G_T_fitsHead_62 (l : Launch) (v : gs_V) (n : Nat) (post : Int32 → gs_S → Prop) (σ : gs_S) : Prop := gG l v lyC 42 me_T_fitsHead n (qI v lyC 42 post) 62 [] [] σ
abbrev G_T_fitsHead_63 (l : Launch) (v : gs_V) (n : Nat) (post : Int32 → gs_S → Prop) (σ : gs_S) (s0 : Int32) : Prop := gG l v lyC 42 me_T_fitsHead n (qI v lyC 42 post) 63 [] [.int s0] σ
abbrev G_T_fitsHead_82 (l : Launch) (v : gs_V) (n : Nat) (post : Int32 → gs_S → Prop) (σ : gs_S) : Prop := gG l v lyC 42 me_T_fitsHead n (qI v lyC 42 post) 82 [] [] σ
abbrev G_T_fitsHead_87 (l : Launch) (v : gs_V) (n : Nat) (post : Int32 → gs_S → Prop) (σ : gs_S) (s0 : Int32) : Prop := gG l v lyC 42 me_T_fitsHead n (qI v lyC 42 post) 87 [] [.int s0] σ
set_option maxRecDepth 20000 in
set_option maxHeartbeats 1000000 in
theorem T_T_fitsHead_0 {l : Launch} {v : gs_V} {n : Nat} {post : Int32 → gs_S → Prop} {σ : gs_S} {x1 : Int32} {x2 : Int32} (h : ((x1 = 0 → ((x2 < 50 → G_T_fitsHead_44 l v n post σ) ∧ (¬ x2 < 50 → ((52 < x2 → G_T_fitsHead_44 l v n post σ) ∧ (¬ 52 < x2 → G_T_fitsHead_45 l v n post σ 1))))) ∧ (x1 = 1 → ((x2 < 49 → G_T_fitsHead_62 l v n post σ) ∧ (¬ x2 < 49 → ((52 < x2 → G_T_fitsHead_62 l v n post σ) ∧ (¬ 52 < x2 → G_T_fitsHead_63 l v n post σ 1))))) ∧ (¬ x1 = 0 → ¬ x1 = 1 → ((x2 = 84 → G_T_fitsHead_82 l v n post σ) ∧ (¬ x2 = 84 → ((x2 = 83 → G_T_fitsHead_82 l v n post σ) ∧ (¬ x2 = 83 → ((¬ x2 = 69 → G_T_fitsHead_87 l v n post σ 0) ∧ (x2 = 69 → G_T_fitsHead_82 l v n post σ))))))))) : G_T_fitsHead_0 l v n post σ x1 x2 := by
  refine g_iload_n d_T_fitsHead_0 1 rfl rfl ?_
  by_cases hk0 : x1 = 0
  · refine g_lookup (tgt := 28) d_T_fitsHead_1 (by decide +kernel) (by rw [hk0] <;> decide +kernel) rfl ?_
    have h := h.1 hk0
    refine g_iload_n d_T_fitsHead_28 2 rfl rfl ?_
    refine g_bipush d_T_fitsHead_29 (x := 50) (by decide) ?_
    refine g_icmp_lt (tgt := 44) d_T_fitsHead_31 rfl (fun hc => ?_) (fun hc => ?_)
    · have h := h.1 hc
      exact g_sub [] rfl h
    · have h := h.2 hc
      refine g_iload_n d_T_fitsHead_34 2 rfl rfl ?_
      refine g_bipush d_T_fitsHead_35 (x := 52) (by decide) ?_
      refine g_icmp_gt (tgt := 44) d_T_fitsHead_37 rfl (fun hc => ?_) (fun hc => ?_)
      · have h := h.1 hc
        exact g_sub [] rfl h
      · have h := h.2 hc
        refine g_iconst d_T_fitsHead_40 (x := 1) (by decide) ?_
        refine g_goto (tgt := 45) d_T_fitsHead_41 rfl ?_
        exact g_sub [] rfl h
  have h := h.2
  by_cases hk1 : x1 = 1
  · refine g_lookup (tgt := 46) d_T_fitsHead_1 (by decide +kernel) (by rw [hk1] <;> decide +kernel) rfl ?_
    have h := h.1 hk1
    refine g_iload_n d_T_fitsHead_46 2 rfl rfl ?_
    refine g_bipush d_T_fitsHead_47 (x := 49) (by decide) ?_
    refine g_icmp_lt (tgt := 62) d_T_fitsHead_49 rfl (fun hc => ?_) (fun hc => ?_)
    · have h := h.1 hc
      exact g_sub [] rfl h
    · have h := h.2 hc
      refine g_iload_n d_T_fitsHead_52 2 rfl rfl ?_
      refine g_bipush d_T_fitsHead_53 (x := 52) (by decide) ?_
      refine g_icmp_gt (tgt := 62) d_T_fitsHead_55 rfl (fun hc => ?_) (fun hc => ?_)
      · have h := h.1 hc
        exact g_sub [] rfl h
      · have h := h.2 hc
        refine g_iconst d_T_fitsHead_58 (x := 1) (by decide) ?_
        refine g_goto (tgt := 63) d_T_fitsHead_59 rfl ?_
        exact g_sub [] rfl h
  have h := h.2
  refine g_lookup (tgt := 64) d_T_fitsHead_1 (by decide +kernel) (by show Op.lookupswitch.offset [(0, 27), (1, 45)] _ _ = _; rw [lv_osw hk0 (by decide +kernel), lv_osw hk1 (by decide +kernel)] <;> rfl) rfl ?_
  have h := h hk0 hk1
  refine g_iload_n d_T_fitsHead_64 2 rfl rfl ?_
  refine g_bipush d_T_fitsHead_65 (x := 84) (by decide) ?_
  refine g_icmp_eq (tgt := 82) d_T_fitsHead_67 rfl (fun hc => ?_) (fun hc => ?_)
  · have h := h.1 hc
    exact g_sub [] rfl h
  · have h := h.2 hc
    refine g_iload_n d_T_fitsHead_70 2 rfl rfl ?_
    refine g_bipush d_T_fitsHead_71 (x := 83) (by decide) ?_
    refine g_icmp_eq (tgt := 82) d_T_fitsHead_73 rfl (fun hc => ?_) (fun hc => ?_)
    · have h := h.1 hc
      exact g_sub [] rfl h
    · have h := h.2 hc
      refine g_iload_n d_T_fitsHead_76 2 rfl rfl ?_
      refine g_bipush d_T_fitsHead_77 (x := 69) (by decide) ?_
      refine g_icmp_ne (tgt := 86) d_T_fitsHead_79 rfl (fun hc => ?_) (fun hc => ?_)
      · have h := h.1 hc
        refine g_iconst d_T_fitsHead_86 (x := 0) (by decide) ?_
        exact g_sub [] rfl h
      · have h := h.2 hc
        exact g_sub [] rfl h
set_option maxRecDepth 20000 in
set_option maxHeartbeats 1000000 in
theorem T_T_fitsHead_44 {l : Launch} {v : gs_V} {n : Nat} {post : Int32 → gs_S → Prop} {σ : gs_S} (h : G_T_fitsHead_45 l v n post σ 0) : G_T_fitsHead_44 l v n post σ := by
  refine g_iconst d_T_fitsHead_44 (x := 0) (by decide) ?_
  exact h
set_option maxRecDepth 20000 in
set_option maxHeartbeats 1000000 in
theorem T_T_fitsHead_45 {l : Launch} {v : gs_V} {n : Nat} {post : Int32 → gs_S → Prop} {σ : gs_S} {s0 : Int32} (h : narrow .boolean (.int s0) = .int s0 ∧ post s0 σ) : G_T_fitsHead_45 l v n post σ s0 := by
  exact g_zret d_T_fitsHead_45 rfl h.1 h.2
set_option maxRecDepth 20000 in
set_option maxHeartbeats 1000000 in
theorem T_T_fitsHead_62 {l : Launch} {v : gs_V} {n : Nat} {post : Int32 → gs_S → Prop} {σ : gs_S} (h : G_T_fitsHead_63 l v n post σ 0) : G_T_fitsHead_62 l v n post σ := by
  refine g_iconst d_T_fitsHead_62 (x := 0) (by decide) ?_
  exact h
set_option maxRecDepth 20000 in
set_option maxHeartbeats 1000000 in
theorem T_T_fitsHead_63 {l : Launch} {v : gs_V} {n : Nat} {post : Int32 → gs_S → Prop} {σ : gs_S} {s0 : Int32} (h : narrow .boolean (.int s0) = .int s0 ∧ post s0 σ) : G_T_fitsHead_63 l v n post σ s0 := by
  exact g_zret d_T_fitsHead_63 rfl h.1 h.2
set_option maxRecDepth 20000 in
set_option maxHeartbeats 1000000 in
theorem T_T_fitsHead_82 {l : Launch} {v : gs_V} {n : Nat} {post : Int32 → gs_S → Prop} {σ : gs_S} (h : G_T_fitsHead_87 l v n post σ 1) : G_T_fitsHead_82 l v n post σ := by
  refine g_iconst d_T_fitsHead_82 (x := 1) (by decide) ?_
  refine g_goto (tgt := 87) d_T_fitsHead_83 rfl ?_
  exact h
set_option maxRecDepth 20000 in
set_option maxHeartbeats 1000000 in
theorem T_T_fitsHead_87 {l : Launch} {v : gs_V} {n : Nat} {post : Int32 → gs_S → Prop} {σ : gs_S} {s0 : Int32} (h : narrow .boolean (.int s0) = .int s0 ∧ post s0 σ) : G_T_fitsHead_87 l v n post σ s0 := by
  exact g_zret d_T_fitsHead_87 rfl h.1 h.2
theorem E_T_fitsHead {l : Launch} {v : gs_V} {n : Nat} {post : Int32 → gs_S → Prop} {σ : gs_S} {x1 : Int32} {x2 : Int32} (h : G_T_fitsHead_0 l v n post σ x1 x2) : gM l v lyC 42 me_T_fitsHead (n + 1) [.ref (v.2.2 1), .int x1, .int x2] σ (qI v lyC 42 post) := gM_of (by decide +kernel) (Nat.le_of_ble_eq_true rfl) h
/-! LineRules$Text.here -/
theorem d_T_here_0 : decode me_T_here.2.1 0 = .ok (.aload_n 0, 1) := by decide +kernel
theorem d_T_here_1 : decode me_T_here.2.1 1 = .ok (.getfield 39, 3) := by decide +kernel
theorem d_T_here_4 : decode me_T_here.2.1 4 = .ok (.ifCond .ne 14, 3) := by decide +kernel
theorem d_T_here_7 : decode me_T_here.2.1 7 = .ok (.aload_n 0, 1) := by decide +kernel
theorem d_T_here_8 : decode me_T_here.2.1 8 = .ok (.getfield 33, 3) := by decide +kernel
theorem d_T_here_11 : decode me_T_here.2.1 11 = .ok (.aload_n 0, 1) := by decide +kernel
theorem d_T_here_12 : decode me_T_here.2.1 12 = .ok (.getfield 19, 3) := by decide +kernel
theorem d_T_here_15 : decode me_T_here.2.1 15 = .ok (.if_icmp .lt 7, 3) := by decide +kernel
theorem d_T_here_18 : decode me_T_here.2.1 18 = .ok (.iconst 0, 1) := by decide +kernel
theorem d_T_here_19 : decode me_T_here.2.1 19 = .ok (.goto 12, 3) := by decide +kernel
theorem d_T_here_22 : decode me_T_here.2.1 22 = .ok (.aload_n 0, 1) := by decide +kernel
theorem d_T_here_23 : decode me_T_here.2.1 23 = .ok (.getfield 9, 3) := by decide +kernel
theorem d_T_here_26 : decode me_T_here.2.1 26 = .ok (.aload_n 0, 1) := by decide +kernel
theorem d_T_here_27 : decode me_T_here.2.1 27 = .ok (.getfield 33, 3) := by decide +kernel
theorem d_T_here_30 : decode me_T_here.2.1 30 = .ok (.caload, 1) := by decide +kernel
theorem d_T_here_31 : decode me_T_here.2.1 31 = .ok (.ireturn, 1) := by decide +kernel
abbrev G_T_here_0 (l : Launch) (v : gs_V) (n : Nat) (post : Int32 → gs_S → Prop) (σ : gs_S) : Prop := gG l v lyC 42 me_T_here n (qI v lyC 42 post) 0 [(0, .ref (v.2.2 1))] [] σ
abbrev G_T_here_18 (l : Launch) (v : gs_V) (n : Nat) (post : Int32 → gs_S → Prop) (σ : gs_S) : Prop := gG l v lyC 42 me_T_here n (qI v lyC 42 post) 18 [] [] σ
abbrev G_T_here_31 (l : Launch) (v : gs_V) (n : Nat) (post : Int32 → gs_S → Prop) (σ : gs_S) (s0 : Int32) : Prop := gG l v lyC 42 me_T_here n (qI v lyC 42 post) 31 [] [.int s0] σ
set_option maxRecDepth 20000 in
set_option maxHeartbeats 1000000 in
theorem T_T_here_0 {l : Launch} {v : gs_V} {n : Nat} {post : Int32 → gs_S → Prop} {σ : gs_S} (h : ((¬ (σ.1 1 8) = 0 → G_T_here_18 l v n post σ) ∧ ((σ.1 1 8) = 0 → (((σ.1 1 6) < (σ.1 1 2) → vp_in (σ.1 1 6) 64 ∧ G_T_here_31 l v n post σ (σ.1 2 ((σ.1 1 6).toNatClampNeg))) ∧ (¬ (σ.1 1 6) < (σ.1 1 2) → G_T_here_18 l v n post σ))))) : G_T_here_0 l v n post σ := by
  refine g_aload_n d_T_here_0 0 rfl rfl ?_
  refine g_getV (x := .int (σ.1 1 8)) d_T_here_1 fl_T_39 (by decide) rfl rfl rfl ?_
  refine g_if_ne (tgt := 18) d_T_here_4 rfl (fun hc => ?_) (fun hc => ?_)
  · have h := h.1 hc
    exact g_sub [] rfl h
  · have h := h.2 hc
    refine g_aload_n d_T_here_7 0 rfl rfl ?_
    refine g_getV (x := .int (σ.1 1 6)) d_T_here_8 fl_T_33 (by decide) rfl rfl rfl ?_
    refine g_aload_n d_T_here_11 0 rfl rfl ?_
    refine g_getV (x := .int (σ.1 1 2)) d_T_here_12 fl_T_19 (by decide) rfl rfl rfl ?_
    refine g_icmp_lt (tgt := 22) d_T_here_15 rfl (fun hc => ?_) (fun hc => ?_)
    · have h := h.1 hc
      refine g_aload_n d_T_here_22 0 rfl rfl ?_
      refine g_getV (x := .ref (v.2.2 2)) d_T_here_23 fl_T_9 (by decide) rfl rfl rfl ?_
      refine g_aload_n d_T_here_26 0 rfl rfl ?_
      refine g_getV (x := .int (σ.1 1 6)) d_T_here_27 fl_T_33 (by decide) rfl rfl rfl ?_
      have hi1 := h.1
      have h := h.2
      refine g_cald (x := σ.1 2 ((σ.1 1 6).toNatClampNeg)) d_T_here_30 (by decide) rfl hi1 rfl ?_
      exact g_sub [] rfl h
    · have h := h.2 hc
      exact g_sub [] rfl h
set_option maxRecDepth 20000 in
set_option maxHeartbeats 1000000 in
theorem T_T_here_18 {l : Launch} {v : gs_V} {n : Nat} {post : Int32 → gs_S → Prop} {σ : gs_S} (h : G_T_here_31 l v n post σ 0) : G_T_here_18 l v n post σ := by
  refine g_iconst d_T_here_18 (x := 0) (by decide) ?_
  refine g_goto (tgt := 31) d_T_here_19 rfl ?_
  exact h
set_option maxRecDepth 20000 in
set_option maxHeartbeats 1000000 in
theorem T_T_here_31 {l : Launch} {v : gs_V} {n : Nat} {post : Int32 → gs_S → Prop} {σ : gs_S} {s0 : Int32} (h : narrow .char (.int s0) = .int s0 ∧ post s0 σ) : G_T_here_31 l v n post σ s0 := by
  exact g_zret d_T_here_31 rfl h.1 h.2
theorem E_T_here {l : Launch} {v : gs_V} {n : Nat} {post : Int32 → gs_S → Prop} {σ : gs_S} (h : G_T_here_0 l v n post σ) : gM l v lyC 42 me_T_here (n + 1) [.ref (v.2.2 1)] σ (qI v lyC 42 post) := gM_of (by decide +kernel) (Nat.le_of_ble_eq_true rfl) h
/-! LineRules$Text.joined -/
theorem d_T_joined_0 : decode me_T_joined.2.1 0 = .ok (.iload_n 1, 1) := by decide +kernel
theorem d_T_joined_1 : decode me_T_joined.2.1 1 = .ok (.iconst 5, 1) := by decide +kernel
theorem d_T_joined_2 : decode me_T_joined.2.1 2 = .ok (.if_icmp .lt 8, 3) := by decide +kernel
theorem d_T_joined_5 : decode me_T_joined.2.1 5 = .ok (.aload_n 0, 1) := by decide +kernel
theorem d_T_joined_6 : decode me_T_joined.2.1 6 = .ok (.invokevirtual 101, 3) := by decide +kernel
theorem d_T_joined_9 : decode me_T_joined.2.1 9 = .ok (.ireturn, 1) := by decide +kernel
theorem d_T_joined_10 : decode me_T_joined.2.1 10 = .ok (.aload_n 0, 1) := by decide +kernel
theorem d_T_joined_11 : decode me_T_joined.2.1 11 = .ok (.iload_n 1, 1) := by decide +kernel
theorem d_T_joined_12 : decode me_T_joined.2.1 12 = .ok (.iconst 1, 1) := by decide +kernel
theorem d_T_joined_13 : decode me_T_joined.2.1 13 = .ok (.iadd, 1) := by decide +kernel
theorem d_T_joined_14 : decode me_T_joined.2.1 14 = .ok (.invokevirtual 90, 3) := by decide +kernel
theorem d_T_joined_17 : decode me_T_joined.2.1 17 = .ok (.istore_n 2, 1) := by decide +kernel
theorem d_T_joined_18 : decode me_T_joined.2.1 18 = .ok (.iload_n 1, 1) := by decide +kernel
theorem d_T_joined_19 : decode me_T_joined.2.1 19 = .ok (.iconst 2, 1) := by decide +kernel
theorem d_T_joined_20 : decode me_T_joined.2.1 20 = .ok (.if_icmp .ne 7, 3) := by decide +kernel
theorem d_T_joined_23 : decode me_T_joined.2.1 23 = .ok (.iconst 1, 1) := by decide +kernel
theorem d_T_joined_24 : decode me_T_joined.2.1 24 = .ok (.goto 5, 3) := by decide +kernel
theorem d_T_joined_27 : decode me_T_joined.2.1 27 = .ok (.bipush 64, 2) := by decide +kernel
theorem d_T_joined_29 : decode me_T_joined.2.1 29 = .ok (.istore_n 3, 1) := by decide +kernel
theorem d_T_joined_30 : decode me_T_joined.2.1 30 = .ok (.iconst 0, 1) := by decide +kernel
theorem d_T_joined_31 : decode me_T_joined.2.1 31 = .ok (.istore 4, 2) := by decide +kernel
theorem d_T_joined_33 : decode me_T_joined.2.1 33 = .ok (.iload 4, 2) := by decide +kernel
theorem d_T_joined_35 : decode me_T_joined.2.1 35 = .ok (.iload_n 3, 1) := by decide +kernel
theorem d_T_joined_36 : decode me_T_joined.2.1 36 = .ok (.if_icmp .ge 51, 3) := by decide +kernel
theorem d_T_joined_39 : decode me_T_joined.2.1 39 = .ok (.aload_n 0, 1) := by decide +kernel
theorem d_T_joined_40 : decode me_T_joined.2.1 40 = .ok (.invokevirtual 93, 3) := by decide +kernel
theorem d_T_joined_43 : decode me_T_joined.2.1 43 = .ok (.invokestatic 104, 3) := by decide +kernel
theorem d_T_joined_46 : decode me_T_joined.2.1 46 = .ok (.iload_n 1, 1) := by decide +kernel
theorem d_T_joined_47 : decode me_T_joined.2.1 47 = .ok (.if_icmp .ne 40, 3) := by decide +kernel
theorem d_T_joined_50 : decode me_T_joined.2.1 50 = .ok (.aload_n 0, 1) := by decide +kernel
theorem d_T_joined_51 : decode me_T_joined.2.1 51 = .ok (.invokevirtual 93, 3) := by decide +kernel
theorem d_T_joined_54 : decode me_T_joined.2.1 54 = .ok (.istore 5, 2) := by decide +kernel
theorem d_T_joined_56 : decode me_T_joined.2.1 56 = .ok (.aload_n 0, 1) := by decide +kernel
theorem d_T_joined_57 : decode me_T_joined.2.1 57 = .ok (.dup, 1) := by decide +kernel
theorem d_T_joined_58 : decode me_T_joined.2.1 58 = .ok (.getfield 33, 3) := by decide +kernel
theorem d_T_joined_61 : decode me_T_joined.2.1 61 = .ok (.iconst 1, 1) := by decide +kernel
theorem d_T_joined_62 : decode me_T_joined.2.1 62 = .ok (.iadd, 1) := by decide +kernel
theorem d_T_joined_63 : decode me_T_joined.2.1 63 = .ok (.putfield 33, 3) := by decide +kernel
theorem d_T_joined_66 : decode me_T_joined.2.1 66 = .ok (.aload_n 0, 1) := by decide +kernel
theorem d_T_joined_67 : decode me_T_joined.2.1 67 = .ok (.iload_n 2, 1) := by decide +kernel
theorem d_T_joined_68 : decode me_T_joined.2.1 68 = .ok (.iload 5, 2) := by decide +kernel
theorem d_T_joined_70 : decode me_T_joined.2.1 70 = .ok (.aload_n 0, 1) := by decide +kernel
theorem d_T_joined_71 : decode me_T_joined.2.1 71 = .ok (.iload_n 1, 1) := by decide +kernel
theorem d_T_joined_72 : decode me_T_joined.2.1 72 = .ok (.iconst 1, 1) := by decide +kernel
theorem d_T_joined_73 : decode me_T_joined.2.1 73 = .ok (.iadd, 1) := by decide +kernel
theorem d_T_joined_74 : decode me_T_joined.2.1 74 = .ok (.invokevirtual 90, 3) := by decide +kernel
theorem d_T_joined_77 : decode me_T_joined.2.1 77 = .ok (.invokevirtual 108, 3) := by decide +kernel
theorem d_T_joined_80 : decode me_T_joined.2.1 80 = .ok (.istore_n 2, 1) := by decide +kernel
theorem d_T_joined_81 : decode me_T_joined.2.1 81 = .ok (.iinc 4 1, 3) := by decide +kernel
theorem d_T_joined_84 : decode me_T_joined.2.1 84 = .ok (.goto (-51), 3) := by decide +kernel
theorem d_T_joined_87 : decode me_T_joined.2.1 87 = .ok (.iload_n 2, 1) := by decide +kernel
theorem d_T_joined_88 : decode me_T_joined.2.1 88 = .ok (.ireturn, 1) := by decide +kernel
abbrev G_T_joined_0 (l : Launch) (v : gs_V) (n : Nat) (post : Int32 → gs_S → Prop) (σ : gs_S) (x1 : Int32) : Prop := gG l v lyC 42 me_T_joined n (qI v lyC 42 post) 0 [(0, .ref (v.2.2 1)), (1, .int x1)] [] σ
abbrev G_T_joined_29 (l : Launch) (v : gs_V) (n : Nat) (post : Int32 → gs_S → Prop) (σ : gs_S) (x1 : Int32) (x2 : Int32) (s0 : Int32) : Prop := gG l v lyC 42 me_T_joined n (qI v lyC 42 post) 29 [(0, .ref (v.2.2 1)), (1, .int x1), (2, .int x2)] [.int s0] σ
abbrev G_T_joined_33 (l : Launch) (v : gs_V) (n : Nat) (post : Int32 → gs_S → Prop) (σ : gs_S) (x1 : Int32) (x2 : Int32) (x3 : Int32) (x4 : Int32) : Prop := gG l v lyC 42 me_T_joined n (qI v lyC 42 post) 33 [(0, .ref (v.2.2 1)), (1, .int x1), (2, .int x2), (3, .int x3), (4, .int x4)] [] σ
abbrev G_T_joined_87 (l : Launch) (v : gs_V) (n : Nat) (post : Int32 → gs_S → Prop) (σ : gs_S) (x2 : Int32) : Prop := gG l v lyC 42 me_T_joined n (qI v lyC 42 post) 87 [(2, .int x2)] [] σ
set_option maxRecDepth 20000 in
set_option maxHeartbeats 1000000 in
theorem T_T_joined_0 {l : Launch} {v : gs_V} {n : Nat} {post : Int32 → gs_S → Prop} {σ : gs_S} {x1 : Int32} (h : ((x1 < 5 → gM l v lyC 42 me_T_joined n [.ref (v.2.2 1), .int (x1 + 1)] σ (qI v lyC 42 (fun r1 σ1 => ((¬ x1 = 2 → G_T_joined_29 l v n post σ1 x1 r1 64) ∧ (x1 = 2 → G_T_joined_29 l v n post σ1 x1 r1 1))))) ∧ (¬ x1 < 5 → gM l v lyC 42 me_T_part n [.ref (v.2.2 1)] σ (qI v lyC 42 (fun r2 σ2 => post r2 σ2))))) : G_T_joined_0 l v n post σ x1 := by
  refine g_iload_n d_T_joined_0 1 rfl rfl ?_
  refine g_iconst d_T_joined_1 (x := 5) (by decide) ?_
  refine g_icmp_lt (tgt := 10) d_T_joined_2 rfl (fun hc => ?_) (fun hc => ?_)
  · have h := h.1 hc
    refine g_aload_n d_T_joined_10 0 rfl rfl ?_
    refine g_iload_n d_T_joined_11 1 rfl rfl ?_
    refine g_iconst d_T_joined_12 (x := 1) (by decide) ?_
    refine g_iadd d_T_joined_13 ?_
    refine g_callVi (av := [.int (x1 + 1)]) (rest := []) d_T_joined_14 Y_T_joined lk_T_90 (by decide) rfl rfl I_T_joined rfl (Nat.le_of_ble_eq_true rfl) rfl h (fun r1 σ1 h => ?_)
    refine g_istore_n (L' := [(2, .int r1), (0, .ref (v.2.2 1)), (1, .int x1)]) d_T_joined_17 rfl (by decide) rfl ?_
    refine g_iload_n d_T_joined_18 2 rfl rfl ?_
    refine g_iconst d_T_joined_19 (x := 2) (by decide) ?_
    refine g_icmp_ne (tgt := 27) d_T_joined_20 rfl (fun hc => ?_) (fun hc => ?_)
    · have h := h.1 hc
      refine g_bipush d_T_joined_27 (x := 64) (by decide) ?_
      exact g_sub [1, 2, 0] rfl h
    · have h := h.2 hc
      refine g_iconst d_T_joined_23 (x := 1) (by decide) ?_
      refine g_goto (tgt := 29) d_T_joined_24 rfl ?_
      exact g_sub [1, 2, 0] rfl h
  · have h := h.2 hc
    refine g_aload_n d_T_joined_5 0 rfl rfl ?_
    refine g_callVi (av := []) (rest := []) d_T_joined_6 Y_T_part lk_T_101 (by decide) rfl rfl I_T_part rfl (Nat.le_of_ble_eq_true rfl) rfl h (fun r2 σ2 h => ?_)
    exact g_iret d_T_joined_9 rfl h
set_option maxRecDepth 20000 in
set_option maxHeartbeats 1000000 in
theorem T_T_joined_29 {l : Launch} {v : gs_V} {n : Nat} {post : Int32 → gs_S → Prop} {σ : gs_S} {x1 : Int32} {x2 : Int32} {s0 : Int32} (h : G_T_joined_33 l v n post σ x1 x2 s0 0) : G_T_joined_29 l v n post σ x1 x2 s0 := by
  refine g_istore_n (L' := [(3, .int s0), (0, .ref (v.2.2 1)), (1, .int x1), (2, .int x2)]) d_T_joined_29 rfl (by decide) rfl ?_
  refine g_iconst d_T_joined_30 (x := 0) (by decide) ?_
  refine g_istore (L' := [(4, .int 0), (3, .int s0), (0, .ref (v.2.2 1)), (1, .int x1), (2, .int x2)]) d_T_joined_31 (by decide) rfl ?_
  exact g_sub [2, 3, 4, 1, 0] rfl h
set_option maxRecDepth 20000 in
set_option maxHeartbeats 1000000 in
theorem T_T_joined_33 {l : Launch} {v : gs_V} {n : Nat} {post : Int32 → gs_S → Prop} {σ : gs_S} {x1 : Int32} {x2 : Int32} {x3 : Int32} {x4 : Int32} (h : ((x3 ≤ x4 → G_T_joined_87 l v n post σ x2) ∧ (¬ x3 ≤ x4 → gM l v lyC 42 me_T_here n [.ref (v.2.2 1)] σ (qI v lyC 42 (fun r1 σ1 => gM l v lyC 42 me_T_levelOf n [.int r1] σ1 (qI v lyC 42 (fun r2 σ2 => ((¬ r2 = x1 → G_T_joined_87 l v n post σ2 x2) ∧ (r2 = x1 → gM l v lyC 42 me_T_here n [.ref (v.2.2 1)] σ2 (qI v lyC 42 (fun r3 σ3 => gM l v lyC 42 me_T_joined n [.ref (v.2.2 1), .int (x1 + 1)] (gs_pI σ3 1 6 ((σ3.1 1 6) + 1)) (qI v lyC 42 (fun r4 σ4 => gM l v lyC 42 me_T_together n [.ref (v.2.2 1), .int x2, .int r3, .int r4] σ4 (qI v lyC 42 (fun r5 σ5 => G_T_joined_33 l v n post σ5 x1 r5 x3 (x4 + 1)))))))))))))))) : G_T_joined_33 l v n post σ x1 x2 x3 x4 := by
  refine g_iload d_T_joined_33 4 rfl ?_
  refine g_iload_n d_T_joined_35 3 rfl rfl ?_
  refine g_icmp_ge (tgt := 87) d_T_joined_36 rfl (fun hc => ?_) (fun hc => ?_)
  · have h := h.1 hc
    exact g_sub [2] rfl h
  · have h := h.2 hc
    refine g_aload_n d_T_joined_39 0 rfl rfl ?_
    refine g_callVi (av := []) (rest := []) d_T_joined_40 Y_T_here lk_T_93 (by decide) rfl rfl I_T_here rfl (Nat.le_of_ble_eq_true rfl) rfl h (fun r1 σ1 h => ?_)
    refine g_callSi (av := [.int r1]) (rest := []) d_T_joined_43 Y_T_levelOf lk_T_104 I_T_levelOf rfl (Nat.le_of_ble_eq_true rfl) rfl h (fun r2 σ2 h => ?_)
    refine g_iload_n d_T_joined_46 1 rfl rfl ?_
    refine g_icmp_ne (tgt := 87) d_T_joined_47 rfl (fun hc => ?_) (fun hc => ?_)
    · have h := h.1 hc
      exact g_sub [2] rfl h
    · have h := h.2 hc
      refine g_aload_n d_T_joined_50 0 rfl rfl ?_
      refine g_callVi (av := []) (rest := []) d_T_joined_51 Y_T_here lk_T_93 (by decide) rfl rfl I_T_here rfl (Nat.le_of_ble_eq_true rfl) rfl h (fun r3 σ3 h => ?_)
      refine g_istore (L' := [(5, .int r3), (0, .ref (v.2.2 1)), (1, .int x1), (2, .int x2), (3, .int x3), (4, .int x4)]) d_T_joined_54 (by decide) rfl ?_
      refine g_aload_n d_T_joined_56 1 rfl rfl ?_
      refine g_dup d_T_joined_57 rfl ?_
      refine g_getV (x := .int (σ3.1 1 6)) d_T_joined_58 fl_T_33 (by decide) rfl rfl rfl ?_
      refine g_iconst d_T_joined_61 (x := 1) (by decide) ?_
      refine g_iadd d_T_joined_62 ?_
      refine g_putI d_T_joined_63 fp_T_33 (by decide) rfl rfl ⟨rfl, rfl⟩ ?_
      refine g_aload_n d_T_joined_66 1 rfl rfl ?_
      refine g_iload_n d_T_joined_67 3 rfl rfl ?_
      refine g_iload d_T_joined_68 0 rfl ?_
      refine g_aload_n d_T_joined_70 1 rfl rfl ?_
      refine g_iload_n d_T_joined_71 2 rfl rfl ?_
      refine g_iconst d_T_joined_72 (x := 1) (by decide) ?_
      refine g_iadd d_T_joined_73 ?_
      refine g_callVi (av := [.int (x1 + 1)]) (rest := [.int r3, .int x2, .ref (v.2.2 1)]) d_T_joined_74 Y_T_joined lk_T_90 (by decide) rfl rfl I_T_joined rfl (Nat.le_of_ble_eq_true rfl) rfl h (fun r4 σ4 h => ?_)
      refine g_callVi (av := [.int x2, .int r3, .int r4]) (rest := []) d_T_joined_77 Y_T_together lk_T_108 (by decide) rfl rfl I_T_together rfl (Nat.le_of_ble_eq_true rfl) rfl h (fun r5 σ5 h => ?_)
      refine g_istore_n (L' := [(2, .int r5), (5, .int r3), (0, .ref (v.2.2 1)), (1, .int x1), (3, .int x3), (4, .int x4)]) d_T_joined_80 rfl (by decide) rfl ?_
      refine g_iinc (L' := [(4, .int (x4 + 1)), (2, .int r5), (5, .int r3), (0, .ref (v.2.2 1)), (1, .int x1), (3, .int x3)]) d_T_joined_81 5 rfl (by rfl) (by decide) rfl ?_
      refine g_goto (tgt := 33) d_T_joined_84 rfl ?_
      exact g_sub [3, 4, 1, 5, 0] rfl h
set_option maxRecDepth 20000 in
set_option maxHeartbeats 1000000 in
theorem T_T_joined_87 {l : Launch} {v : gs_V} {n : Nat} {post : Int32 → gs_S → Prop} {σ : gs_S} {x2 : Int32} (h : post x2 σ) : G_T_joined_87 l v n post σ x2 := by
  refine g_iload_n d_T_joined_87 0 rfl rfl ?_
  exact g_iret d_T_joined_88 rfl h
theorem E_T_joined {l : Launch} {v : gs_V} {n : Nat} {post : Int32 → gs_S → Prop} {σ : gs_S} {x1 : Int32} (h : G_T_joined_0 l v n post σ x1) : gM l v lyC 42 me_T_joined (n + 1) [.ref (v.2.2 1), .int x1] σ (qI v lyC 42 post) := gM_of (by decide +kernel) (Nat.le_of_ble_eq_true rfl) h
/-! LineRules$Text.levelOf -/
theorem d_T_levelOf_0 : decode me_T_levelOf.2.1 0 = .ok (.iload_n 0, 1) := by decide +kernel
theorem d_T_levelOf_1 : decode me_T_levelOf.2.1 1 = .ok (.lookupswitch 77 #[(38, 69), (42, 75), (43, 73), (45, 73), (60, 71), (61, 71), (124, 67)], 67) := by decide +kernel
theorem d_T_levelOf_68 : decode me_T_levelOf.2.1 68 = .ok (.iconst 0, 1) := by decide +kernel
theorem d_T_levelOf_69 : decode me_T_levelOf.2.1 69 = .ok (.ireturn, 1) := by decide +kernel
theorem d_T_levelOf_70 : decode me_T_levelOf.2.1 70 = .ok (.iconst 1, 1) := by decide +kernel
theorem d_T_levelOf_71 : decode me_T_levelOf.2.1 71 = .ok (.ireturn, 1) := by decide +kernel
theorem d_T_levelOf_72 : decode me_T_levelOf.2.1 72 = .ok (.iconst 2, 1) := by decide +kernel
theorem d_T_levelOf_73 : decode me_T_levelOf.2.1 73 = .ok (.ireturn, 1) := by decide +kernel
theorem d_T_levelOf_74 : decode me_T_levelOf.2.1 74 = .ok (.iconst 3, 1) := by decide +kernel
theorem d_T_levelOf_75 : decode me_T_levelOf.2.1 75 = .ok (.ireturn, 1) := by decide +kernel
theorem d_T_levelOf_76 : decode me_T_levelOf.2.1 76 = .ok (.iconst 4, 1) := by decide +kernel
theorem d_T_levelOf_77 : decode me_T_levelOf.2.1 77 = .ok (.ireturn, 1) := by decide +kernel
theorem d_T_levelOf_78 : decode me_T_levelOf.2.1 78 = .ok (.iconst (-1), 1) := by decide +kernel
theorem d_T_levelOf_79 : decode me_T_levelOf.2.1 79 = .ok (.ireturn, 1) := by decide +kernel
abbrev G_T_levelOf_0 (l : Launch) (v : gs_V) (n : Nat) (post : Int32 → gs_S → Prop) (σ : gs_S) (x0 : Int32) : Prop := gG l v lyC 42 me_T_levelOf n (qI v lyC 42 post) 0 [(0, .int x0)] [] σ
abbrev G_T_levelOf_72 (l : Launch) (v : gs_V) (n : Nat) (post : Int32 → gs_S → Prop) (σ : gs_S) : Prop := gG l v lyC 42 me_T_levelOf n (qI v lyC 42 post) 72 [] [] σ
abbrev G_T_levelOf_74 (l : Launch) (v : gs_V) (n : Nat) (post : Int32 → gs_S → Prop) (σ : gs_S) : Prop := gG l v lyC 42 me_T_levelOf n (qI v lyC 42 post) 74 [] [] σ
set_option maxRecDepth 20000 in
set_option maxHeartbeats 1000000 in
theorem T_T_levelOf_0 {l : Launch} {v : gs_V} {n : Nat} {post : Int32 → gs_S → Prop} {σ : gs_S} {x0 : Int32} (h : ((x0 = 38 → post 1 σ) ∧ (x0 = 42 → post 4 σ) ∧ (x0 = 43 → G_T_levelOf_74 l v n post σ) ∧ (x0 = 45 → G_T_levelOf_74 l v n post σ) ∧ (x0 = 60 → G_T_levelOf_72 l v n post σ) ∧ (x0 = 61 → G_T_levelOf_72 l v n post σ) ∧ (x0 = 124 → post 0 σ) ∧ (¬ x0 = 38 → ¬ x0 = 42 → ¬ x0 = 43 → ¬ x0 = 45 → ¬ x0 = 60 → ¬ x0 = 61 → ¬ x0 = 124 → post ((-1)) σ))) : G_T_levelOf_0 l v n post σ x0 := by
  refine g_iload_n d_T_levelOf_0 0 rfl rfl ?_
  by_cases hk0 : x0 = 38
  · refine g_lookup (tgt := 70) d_T_levelOf_1 (by decide +kernel) (by rw [hk0] <;> decide +kernel) rfl ?_
    have h := h.1 hk0
    refine g_iconst d_T_levelOf_70 (x := 1) (by decide) ?_
    exact g_iret d_T_levelOf_71 rfl h
  have h := h.2
  by_cases hk1 : x0 = 42
  · refine g_lookup (tgt := 76) d_T_levelOf_1 (by decide +kernel) (by rw [hk1] <;> decide +kernel) rfl ?_
    have h := h.1 hk1
    refine g_iconst d_T_levelOf_76 (x := 4) (by decide) ?_
    exact g_iret d_T_levelOf_77 rfl h
  have h := h.2
  by_cases hk2 : x0 = 43
  · refine g_lookup (tgt := 74) d_T_levelOf_1 (by decide +kernel) (by rw [hk2] <;> decide +kernel) rfl ?_
    have h := h.1 hk2
    exact g_sub [] rfl h
  have h := h.2
  by_cases hk3 : x0 = 45
  · refine g_lookup (tgt := 74) d_T_levelOf_1 (by decide +kernel) (by rw [hk3] <;> decide +kernel) rfl ?_
    have h := h.1 hk3
    exact g_sub [] rfl h
  have h := h.2
  by_cases hk4 : x0 = 60
  · refine g_lookup (tgt := 72) d_T_levelOf_1 (by decide +kernel) (by rw [hk4] <;> decide +kernel) rfl ?_
    have h := h.1 hk4
    exact g_sub [] rfl h
  have h := h.2
  by_cases hk5 : x0 = 61
  · refine g_lookup (tgt := 72) d_T_levelOf_1 (by decide +kernel) (by rw [hk5] <;> decide +kernel) rfl ?_
    have h := h.1 hk5
    exact g_sub [] rfl h
  have h := h.2
  by_cases hk6 : x0 = 124
  · refine g_lookup (tgt := 68) d_T_levelOf_1 (by decide +kernel) (by rw [hk6] <;> decide +kernel) rfl ?_
    have h := h.1 hk6
    refine g_iconst d_T_levelOf_68 (x := 0) (by decide) ?_
    exact g_iret d_T_levelOf_69 rfl h
  have h := h.2
  refine g_lookup (tgt := 78) d_T_levelOf_1 (by decide +kernel) (by show Op.lookupswitch.offset [(38, 69), (42, 75), (43, 73), (45, 73), (60, 71), (61, 71), (124, 67)] _ _ = _; rw [lv_osw hk0 (by decide +kernel), lv_osw hk1 (by decide +kernel), lv_osw hk2 (by decide +kernel), lv_osw hk3 (by decide +kernel), lv_osw hk4 (by decide +kernel), lv_osw hk5 (by decide +kernel), lv_osw hk6 (by decide +kernel)] <;> rfl) rfl ?_
  have h := h hk0 hk1 hk2 hk3 hk4 hk5 hk6
  refine g_iconst d_T_levelOf_78 (x := (-1)) (by decide) ?_
  exact g_iret d_T_levelOf_79 rfl h
set_option maxRecDepth 20000 in
set_option maxHeartbeats 1000000 in
theorem T_T_levelOf_72 {l : Launch} {v : gs_V} {n : Nat} {post : Int32 → gs_S → Prop} {σ : gs_S} (h : post 2 σ) : G_T_levelOf_72 l v n post σ := by
  refine g_iconst d_T_levelOf_72 (x := 2) (by decide) ?_
  exact g_iret d_T_levelOf_73 rfl h
set_option maxRecDepth 20000 in
set_option maxHeartbeats 1000000 in
theorem T_T_levelOf_74 {l : Launch} {v : gs_V} {n : Nat} {post : Int32 → gs_S → Prop} {σ : gs_S} (h : post 3 σ) : G_T_levelOf_74 l v n post σ := by
  refine g_iconst d_T_levelOf_74 (x := 3) (by decide) ?_
  exact g_iret d_T_levelOf_75 rfl h
theorem E_T_levelOf {l : Launch} {v : gs_V} {n : Nat} {post : Int32 → gs_S → Prop} {σ : gs_S} {x0 : Int32} (h : G_T_levelOf_0 l v n post σ x0) : gM l v lyC 42 me_T_levelOf (n + 1) [.int x0] σ (qI v lyC 42 post) := gM_of (by decide +kernel) (Nat.le_of_ble_eq_true rfl) h
/-! LineRules$Text.made -/
theorem d_T_made_0 : decode me_T_made.2.1 0 = .ok (.aload_n 0, 1) := by decide +kernel
theorem d_T_made_1 : decode me_T_made.2.1 1 = .ok (.getfield 29, 3) := by decide +kernel
theorem d_T_made_4 : decode me_T_made.2.1 4 = .ok (.lookupswitch 56 #[(83, 40), (84, 28)], 28) := by decide +kernel
theorem d_T_made_32 : decode me_T_made.2.1 32 = .ok (.aload_n 0, 1) := by decide +kernel
theorem d_T_made_33 : decode me_T_made.2.1 33 = .ok (.getfield 9, 3) := by decide +kernel
theorem d_T_made_36 : decode me_T_made.2.1 36 = .ok (.iconst 3, 1) := by decide +kernel
theorem d_T_made_37 : decode me_T_made.2.1 37 = .ok (.iload_n 1, 1) := by decide +kernel
theorem d_T_made_38 : decode me_T_made.2.1 38 = .ok (.iadd, 1) := by decide +kernel
theorem d_T_made_39 : decode me_T_made.2.1 39 = .ok (.caload, 1) := by decide +kernel
theorem d_T_made_40 : decode me_T_made.2.1 40 = .ok (.bipush 48, 2) := by decide +kernel
theorem d_T_made_42 : decode me_T_made.2.1 42 = .ok (.isub, 1) := by decide +kernel
theorem d_T_made_43 : decode me_T_made.2.1 43 = .ok (.ireturn, 1) := by decide +kernel
theorem d_T_made_44 : decode me_T_made.2.1 44 = .ok (.aload_n 0, 1) := by decide +kernel
theorem d_T_made_45 : decode me_T_made.2.1 45 = .ok (.getfield 9, 3) := by decide +kernel
theorem d_T_made_48 : decode me_T_made.2.1 48 = .ok (.iconst 3, 1) := by decide +kernel
theorem d_T_made_49 : decode me_T_made.2.1 49 = .ok (.aload_n 0, 1) := by decide +kernel
theorem d_T_made_50 : decode me_T_made.2.1 50 = .ok (.iload_n 1, 1) := by decide +kernel
theorem d_T_made_51 : decode me_T_made.2.1 51 = .ok (.invokevirtual 84, 3) := by decide +kernel
theorem d_T_made_54 : decode me_T_made.2.1 54 = .ok (.iadd, 1) := by decide +kernel
theorem d_T_made_55 : decode me_T_made.2.1 55 = .ok (.caload, 1) := by decide +kernel
theorem d_T_made_56 : decode me_T_made.2.1 56 = .ok (.bipush 48, 2) := by decide +kernel
theorem d_T_made_58 : decode me_T_made.2.1 58 = .ok (.isub, 1) := by decide +kernel
theorem d_T_made_59 : decode me_T_made.2.1 59 = .ok (.ireturn, 1) := by decide +kernel
theorem d_T_made_60 : decode me_T_made.2.1 60 = .ok (.aload_n 0, 1) := by decide +kernel
theorem d_T_made_61 : decode me_T_made.2.1 61 = .ok (.iload_n 1, 1) := by decide +kernel
theorem d_T_made_62 : decode me_T_made.2.1 62 = .ok (.invokevirtual 63, 3) := by decide +kernel
theorem d_T_made_65 : decode me_T_made.2.1 65 = .ok (.ireturn, 1) := by decide +kernel
abbrev G_T_made_0 (l : Launch) (v : gs_V) (n : Nat) (post : Int32 → gs_S → Prop) (σ : gs_S) (x1 : Int32) : Prop := gG l v lyC 42 me_T_made n (qI v lyC 42 post) 0 [(0, .ref (v.2.2 1)), (1, .int x1)] [] σ
set_option maxRecDepth 20000 in
set_option maxHeartbeats 1000000 in
theorem T_T_made_0 {l : Launch} {v : gs_V} {n : Nat} {post : Int32 → gs_S → Prop} {σ : gs_S} {x1 : Int32} (h : (((σ.1 1 5) = 83 → gM l v lyC 42 me_T_sumOf n [.ref (v.2.2 1), .int x1] σ (qI v lyC 42 (fun r1 σ1 => vp_in (3 + r1) 64 ∧ post ((σ1.1 2 ((3 + r1).toNatClampNeg)) - 48) σ1))) ∧ ((σ.1 1 5) = 84 → vp_in (3 + x1) 64 ∧ post ((σ.1 2 ((3 + x1).toNatClampNeg)) - 48) σ) ∧ (¬ (σ.1 1 5) = 83 → ¬ (σ.1 1 5) = 84 → gM l v lyC 42 me_T_valueFor n [.ref (v.2.2 1), .int x1] σ (qI v lyC 42 (fun r4 σ4 => post r4 σ4))))) : G_T_made_0 l v n post σ x1 := by
  refine g_aload_n d_T_made_0 0 rfl rfl ?_
  refine g_getV (x := .int (σ.1 1 5)) d_T_made_1 fl_T_29 (by decide) rfl rfl rfl ?_
  by_cases hk0 : (σ.1 1 5) = 83
  · refine g_lookup (tgt := 44) d_T_made_4 (by decide +kernel) (by rw [hk0] <;> decide +kernel) rfl ?_
    have h := h.1 hk0
    refine g_aload_n d_T_made_44 0 rfl rfl ?_
    refine g_getV (x := .ref (v.2.2 2)) d_T_made_45 fl_T_9 (by decide) rfl rfl rfl ?_
    refine g_iconst d_T_made_48 (x := 3) (by decide) ?_
    refine g_aload_n d_T_made_49 0 rfl rfl ?_
    refine g_iload_n d_T_made_50 1 rfl rfl ?_
    refine g_callVi (av := [.int x1]) (rest := [.int 3, .ref (v.2.2 2)]) d_T_made_51 Y_T_sumOf lk_T_84 (by decide) rfl rfl I_T_sumOf rfl (Nat.le_of_ble_eq_true rfl) rfl h (fun r1 σ1 h => ?_)
    refine g_iadd d_T_made_54 ?_
    have hi2 := h.1
    have h := h.2
    refine g_cald (x := σ1.1 2 ((3 + r1).toNatClampNeg)) d_T_made_55 (by decide) rfl hi2 rfl ?_
    refine g_bipush d_T_made_56 (x := 48) (by decide) ?_
    refine g_isub d_T_made_58 ?_
    exact g_iret d_T_made_59 rfl h
  have h := h.2
  by_cases hk1 : (σ.1 1 5) = 84
  · refine g_lookup (tgt := 32) d_T_made_4 (by decide +kernel) (by rw [hk1] <;> decide +kernel) rfl ?_
    have h := h.1 hk1
    refine g_aload_n d_T_made_32 0 rfl rfl ?_
    refine g_getV (x := .ref (v.2.2 2)) d_T_made_33 fl_T_9 (by decide) rfl rfl rfl ?_
    refine g_iconst d_T_made_36 (x := 3) (by decide) ?_
    refine g_iload_n d_T_made_37 1 rfl rfl ?_
    refine g_iadd d_T_made_38 ?_
    have hi3 := h.1
    have h := h.2
    refine g_cald (x := σ.1 2 ((3 + x1).toNatClampNeg)) d_T_made_39 (by decide) rfl hi3 rfl ?_
    refine g_bipush d_T_made_40 (x := 48) (by decide) ?_
    refine g_isub d_T_made_42 ?_
    exact g_iret d_T_made_43 rfl h
  have h := h.2
  refine g_lookup (tgt := 60) d_T_made_4 (by decide +kernel) (by show Op.lookupswitch.offset [(83, 40), (84, 28)] _ _ = _; rw [lv_osw hk0 (by decide +kernel), lv_osw hk1 (by decide +kernel)] <;> rfl) rfl ?_
  have h := h hk0 hk1
  refine g_aload_n d_T_made_60 0 rfl rfl ?_
  refine g_iload_n d_T_made_61 1 rfl rfl ?_
  refine g_callVi (av := [.int x1]) (rest := []) d_T_made_62 Y_T_valueFor lk_T_63 (by decide) rfl rfl I_T_valueFor rfl (Nat.le_of_ble_eq_true rfl) rfl h (fun r4 σ4 h => ?_)
  exact g_iret d_T_made_65 rfl h
theorem E_T_made {l : Launch} {v : gs_V} {n : Nat} {post : Int32 → gs_S → Prop} {σ : gs_S} {x1 : Int32} (h : G_T_made_0 l v n post σ x1) : gM l v lyC 42 me_T_made (n + 1) [.ref (v.2.2 1), .int x1] σ (qI v lyC 42 post) := gM_of (by decide +kernel) (Nat.le_of_ble_eq_true rfl) h
/-! LineRules$Text.opens -/
theorem d_T_opens_0 : decode me_T_opens.2.1 0 = .ok (.aload_n 0, 1) := by decide +kernel
theorem d_T_opens_1 : decode me_T_opens.2.1 1 = .ok (.getfield 36, 3) := by decide +kernel
theorem d_T_opens_4 : decode me_T_opens.2.1 4 = .ok (.iconst 4, 1) := by decide +kernel
theorem d_T_opens_5 : decode me_T_opens.2.1 5 = .ok (.if_icmp .lt 10, 3) := by decide +kernel
theorem d_T_opens_8 : decode me_T_opens.2.1 8 = .ok (.aload_n 0, 1) := by decide +kernel
theorem d_T_opens_9 : decode me_T_opens.2.1 9 = .ok (.iconst 1, 1) := by decide +kernel
theorem d_T_opens_10 : decode me_T_opens.2.1 10 = .ok (.putfield 39, 3) := by decide +kernel
theorem d_T_opens_13 : decode me_T_opens.2.1 13 = .ok (.iconst 0, 1) := by decide +kernel
theorem d_T_opens_14 : decode me_T_opens.2.1 14 = .ok (.ireturn, 1) := by decide +kernel
theorem d_T_opens_15 : decode me_T_opens.2.1 15 = .ok (.aload_n 0, 1) := by decide +kernel
theorem d_T_opens_16 : decode me_T_opens.2.1 16 = .ok (.dup, 1) := by decide +kernel
theorem d_T_opens_17 : decode me_T_opens.2.1 17 = .ok (.getfield 36, 3) := by decide +kernel
theorem d_T_opens_20 : decode me_T_opens.2.1 20 = .ok (.iconst 1, 1) := by decide +kernel
theorem d_T_opens_21 : decode me_T_opens.2.1 21 = .ok (.iadd, 1) := by decide +kernel
theorem d_T_opens_22 : decode me_T_opens.2.1 22 = .ok (.putfield 36, 3) := by decide +kernel
theorem d_T_opens_25 : decode me_T_opens.2.1 25 = .ok (.aload_n 0, 1) := by decide +kernel
theorem d_T_opens_26 : decode me_T_opens.2.1 26 = .ok (.dup, 1) := by decide +kernel
theorem d_T_opens_27 : decode me_T_opens.2.1 27 = .ok (.getfield 33, 3) := by decide +kernel
theorem d_T_opens_30 : decode me_T_opens.2.1 30 = .ok (.iconst 1, 1) := by decide +kernel
theorem d_T_opens_31 : decode me_T_opens.2.1 31 = .ok (.iadd, 1) := by decide +kernel
theorem d_T_opens_32 : decode me_T_opens.2.1 32 = .ok (.putfield 33, 3) := by decide +kernel
theorem d_T_opens_35 : decode me_T_opens.2.1 35 = .ok (.iconst 1, 1) := by decide +kernel
theorem d_T_opens_36 : decode me_T_opens.2.1 36 = .ok (.ireturn, 1) := by decide +kernel
abbrev G_T_opens_0 (l : Launch) (v : gs_V) (n : Nat) (post : Int32 → gs_S → Prop) (σ : gs_S) : Prop := gG l v lyC 42 me_T_opens n (qI v lyC 42 post) 0 [(0, .ref (v.2.2 1))] [] σ
set_option maxRecDepth 20000 in
set_option maxHeartbeats 1000000 in
theorem T_T_opens_0 {l : Launch} {v : gs_V} {n : Nat} {post : Int32 → gs_S → Prop} {σ : gs_S} (h : (((σ.1 1 7) < 4 → post 1 (gs_pI (gs_pI σ 1 7 ((σ.1 1 7) + 1)) 1 6 ((σ.1 1 6) + 1))) ∧ (¬ (σ.1 1 7) < 4 → post 0 (gs_pI σ 1 8 1)))) : G_T_opens_0 l v n post σ := by
  refine g_aload_n d_T_opens_0 0 rfl rfl ?_
  refine g_getV (x := .int (σ.1 1 7)) d_T_opens_1 fl_T_36 (by decide) rfl rfl rfl ?_
  refine g_iconst d_T_opens_4 (x := 4) (by decide) ?_
  refine g_icmp_lt (tgt := 15) d_T_opens_5 rfl (fun hc => ?_) (fun hc => ?_)
  · have h := h.1 hc
    refine g_aload_n d_T_opens_15 0 rfl rfl ?_
    refine g_dup d_T_opens_16 rfl ?_
    refine g_getV (x := .int (σ.1 1 7)) d_T_opens_17 fl_T_36 (by decide) rfl rfl rfl ?_
    refine g_iconst d_T_opens_20 (x := 1) (by decide) ?_
    refine g_iadd d_T_opens_21 ?_
    refine g_putI d_T_opens_22 fp_T_36 (by decide) rfl rfl ⟨rfl, rfl⟩ ?_
    refine g_aload_n d_T_opens_25 0 rfl rfl ?_
    refine g_dup d_T_opens_26 rfl ?_
    refine g_getV (x := .int (σ.1 1 6)) d_T_opens_27 fl_T_33 (by decide) rfl rfl rfl ?_
    refine g_iconst d_T_opens_30 (x := 1) (by decide) ?_
    refine g_iadd d_T_opens_31 ?_
    refine g_putI d_T_opens_32 fp_T_33 (by decide) rfl rfl ⟨rfl, rfl⟩ ?_
    refine g_iconst d_T_opens_35 (x := 1) (by decide) ?_
    exact g_zret d_T_opens_36 rfl rfl h
  · have h := h.2 hc
    refine g_aload_n d_T_opens_8 0 rfl rfl ?_
    refine g_iconst d_T_opens_9 (x := 1) (by decide) ?_
    refine g_putI d_T_opens_10 fp_T_39 (by decide) rfl rfl ⟨rfl, rfl⟩ ?_
    refine g_iconst d_T_opens_13 (x := 0) (by decide) ?_
    exact g_zret d_T_opens_14 rfl rfl h
theorem E_T_opens {l : Launch} {v : gs_V} {n : Nat} {post : Int32 → gs_S → Prop} {σ : gs_S} (h : G_T_opens_0 l v n post σ) : gM l v lyC 42 me_T_opens (n + 1) [.ref (v.2.2 1)] σ (qI v lyC 42 post) := gM_of (by decide +kernel) (Nat.le_of_ble_eq_true rfl) h
/-! LineRules$Text.part -/
theorem d_T_part_0 : decode me_T_part.2.1 0 = .ok (.iconst 0, 1) := by decide +kernel
theorem d_T_part_1 : decode me_T_part.2.1 1 = .ok (.istore_n 1, 1) := by decide +kernel
theorem d_T_part_2 : decode me_T_part.2.1 2 = .ok (.iconst 0, 1) := by decide +kernel
theorem d_T_part_3 : decode me_T_part.2.1 3 = .ok (.istore_n 2, 1) := by decide +kernel
theorem d_T_part_4 : decode me_T_part.2.1 4 = .ok (.iload_n 2, 1) := by decide +kernel
theorem d_T_part_5 : decode me_T_part.2.1 5 = .ok (.bipush 64, 2) := by decide +kernel
theorem d_T_part_7 : decode me_T_part.2.1 7 = .ok (.if_icmp .ge 38, 3) := by decide +kernel
theorem d_T_part_10 : decode me_T_part.2.1 10 = .ok (.aload_n 0, 1) := by decide +kernel
theorem d_T_part_11 : decode me_T_part.2.1 11 = .ok (.invokevirtual 93, 3) := by decide +kernel
theorem d_T_part_14 : decode me_T_part.2.1 14 = .ok (.bipush 33, 2) := by decide +kernel
theorem d_T_part_16 : decode me_T_part.2.1 16 = .ok (.if_icmp .ne 29, 3) := by decide +kernel
theorem d_T_part_19 : decode me_T_part.2.1 19 = .ok (.iload_n 1, 1) := by decide +kernel
theorem d_T_part_20 : decode me_T_part.2.1 20 = .ok (.ifCond .ne 7, 3) := by decide +kernel
theorem d_T_part_23 : decode me_T_part.2.1 23 = .ok (.iconst 1, 1) := by decide +kernel
theorem d_T_part_24 : decode me_T_part.2.1 24 = .ok (.goto 4, 3) := by decide +kernel
theorem d_T_part_27 : decode me_T_part.2.1 27 = .ok (.iconst 0, 1) := by decide +kernel
theorem d_T_part_28 : decode me_T_part.2.1 28 = .ok (.istore_n 1, 1) := by decide +kernel
theorem d_T_part_29 : decode me_T_part.2.1 29 = .ok (.aload_n 0, 1) := by decide +kernel
theorem d_T_part_30 : decode me_T_part.2.1 30 = .ok (.dup, 1) := by decide +kernel
theorem d_T_part_31 : decode me_T_part.2.1 31 = .ok (.getfield 33, 3) := by decide +kernel
theorem d_T_part_34 : decode me_T_part.2.1 34 = .ok (.iconst 1, 1) := by decide +kernel
theorem d_T_part_35 : decode me_T_part.2.1 35 = .ok (.iadd, 1) := by decide +kernel
theorem d_T_part_36 : decode me_T_part.2.1 36 = .ok (.putfield 33, 3) := by decide +kernel
theorem d_T_part_39 : decode me_T_part.2.1 39 = .ok (.iinc 2 1, 3) := by decide +kernel
theorem d_T_part_42 : decode me_T_part.2.1 42 = .ok (.goto (-38), 3) := by decide +kernel
theorem d_T_part_45 : decode me_T_part.2.1 45 = .ok (.aload_n 0, 1) := by decide +kernel
theorem d_T_part_46 : decode me_T_part.2.1 46 = .ok (.invokevirtual 120, 3) := by decide +kernel
theorem d_T_part_49 : decode me_T_part.2.1 49 = .ok (.istore_n 2, 1) := by decide +kernel
theorem d_T_part_50 : decode me_T_part.2.1 50 = .ok (.iload_n 1, 1) := by decide +kernel
theorem d_T_part_51 : decode me_T_part.2.1 51 = .ok (.ifCond .eq 14, 3) := by decide +kernel
theorem d_T_part_54 : decode me_T_part.2.1 54 = .ok (.aload_n 0, 1) := by decide +kernel
theorem d_T_part_55 : decode me_T_part.2.1 55 = .ok (.getfield 23, 3) := by decide +kernel
theorem d_T_part_58 : decode me_T_part.2.1 58 = .ok (.iconst 1, 1) := by decide +kernel
theorem d_T_part_59 : decode me_T_part.2.1 59 = .ok (.isub, 1) := by decide +kernel
theorem d_T_part_60 : decode me_T_part.2.1 60 = .ok (.iload_n 2, 1) := by decide +kernel
theorem d_T_part_61 : decode me_T_part.2.1 61 = .ok (.isub, 1) := by decide +kernel
theorem d_T_part_62 : decode me_T_part.2.1 62 = .ok (.goto 4, 3) := by decide +kernel
theorem d_T_part_65 : decode me_T_part.2.1 65 = .ok (.iload_n 2, 1) := by decide +kernel
theorem d_T_part_66 : decode me_T_part.2.1 66 = .ok (.ireturn, 1) := by decide +kernel
abbrev G_T_part_0 (l : Launch) (v : gs_V) (n : Nat) (post : Int32 → gs_S → Prop) (σ : gs_S) : Prop := gG l v lyC 42 me_T_part n (qI v lyC 42 post) 0 [(0, .ref (v.2.2 1))] [] σ
abbrev G_T_part_4 (l : Launch) (v : gs_V) (n : Nat) (post : Int32 → gs_S → Prop) (σ : gs_S) (x1 : Int32) (x2 : Int32) : Prop := gG l v lyC 42 me_T_part n (qI v lyC 42 post) 4 [(0, .ref (v.2.2 1)), (1, .int x1), (2, .int x2)] [] σ
abbrev G_T_part_28 (l : Launch) (v : gs_V) (n : Nat) (post : Int32 → gs_S → Prop) (σ : gs_S) (x2 : Int32) (s0 : Int32) : Prop := gG l v lyC 42 me_T_part n (qI v lyC 42 post) 28 [(0, .ref (v.2.2 1)), (2, .int x2)] [.int s0] σ
abbrev G_T_part_45 (l : Launch) (v : gs_V) (n : Nat) (post : Int32 → gs_S → Prop) (σ : gs_S) (x1 : Int32) : Prop := gG l v lyC 42 me_T_part n (qI v lyC 42 post) 45 [(0, .ref (v.2.2 1)), (1, .int x1)] [] σ
abbrev G_T_part_66 (l : Launch) (v : gs_V) (n : Nat) (post : Int32 → gs_S → Prop) (σ : gs_S) (s0 : Int32) : Prop := gG l v lyC 42 me_T_part n (qI v lyC 42 post) 66 [] [.int s0] σ
set_option maxRecDepth 20000 in
set_option maxHeartbeats 1000000 in
theorem T_T_part_0 {l : Launch} {v : gs_V} {n : Nat} {post : Int32 → gs_S → Prop} {σ : gs_S} (h : G_T_part_4 l v n post σ 0 0) : G_T_part_0 l v n post σ := by
  refine g_iconst d_T_part_0 (x := 0) (by decide) ?_
  refine g_istore_n (L' := [(1, .int 0), (0, .ref (v.2.2 1))]) d_T_part_1 rfl (by decide) rfl ?_
  refine g_iconst d_T_part_2 (x := 0) (by decide) ?_
  refine g_istore_n (L' := [(2, .int 0), (1, .int 0), (0, .ref (v.2.2 1))]) d_T_part_3 rfl (by decide) rfl ?_
  exact g_sub [2, 1, 0] rfl h
set_option maxRecDepth 20000 in
set_option maxHeartbeats 1000000 in
theorem T_T_part_4 {l : Launch} {v : gs_V} {n : Nat} {post : Int32 → gs_S → Prop} {σ : gs_S} {x1 : Int32} {x2 : Int32} (h : ((64 ≤ x2 → G_T_part_45 l v n post σ x1) ∧ (¬ 64 ≤ x2 → gM l v lyC 42 me_T_here n [.ref (v.2.2 1)] σ (qI v lyC 42 (fun r1 σ1 => ((¬ r1 = 33 → G_T_part_45 l v n post σ1 x1) ∧ (r1 = 33 → ((¬ x1 = 0 → G_T_part_28 l v n post σ1 x2 0) ∧ (x1 = 0 → G_T_part_28 l v n post σ1 x2 1))))))))) : G_T_part_4 l v n post σ x1 x2 := by
  refine g_iload_n d_T_part_4 2 rfl rfl ?_
  refine g_bipush d_T_part_5 (x := 64) (by decide) ?_
  refine g_icmp_ge (tgt := 45) d_T_part_7 rfl (fun hc => ?_) (fun hc => ?_)
  · have h := h.1 hc
    exact g_sub [0, 1] rfl h
  · have h := h.2 hc
    refine g_aload_n d_T_part_10 0 rfl rfl ?_
    refine g_callVi (av := []) (rest := []) d_T_part_11 Y_T_here lk_T_93 (by decide) rfl rfl I_T_here rfl (Nat.le_of_ble_eq_true rfl) rfl h (fun r1 σ1 h => ?_)
    refine g_bipush d_T_part_14 (x := 33) (by decide) ?_
    refine g_icmp_ne (tgt := 45) d_T_part_16 rfl (fun hc => ?_) (fun hc => ?_)
    · have h := h.1 hc
      exact g_sub [0, 1] rfl h
    · have h := h.2 hc
      refine g_iload_n d_T_part_19 1 rfl rfl ?_
      refine g_if_ne (tgt := 27) d_T_part_20 rfl (fun hc => ?_) (fun hc => ?_)
      · have h := h.1 hc
        refine g_iconst d_T_part_27 (x := 0) (by decide) ?_
        exact g_sub [0, 2] rfl h
      · have h := h.2 hc
        refine g_iconst d_T_part_23 (x := 1) (by decide) ?_
        refine g_goto (tgt := 28) d_T_part_24 rfl ?_
        exact g_sub [0, 2] rfl h
set_option maxRecDepth 20000 in
set_option maxHeartbeats 1000000 in
theorem T_T_part_28 {l : Launch} {v : gs_V} {n : Nat} {post : Int32 → gs_S → Prop} {σ : gs_S} {x2 : Int32} {s0 : Int32} (h : G_T_part_4 l v n post (gs_pI σ 1 6 ((σ.1 1 6) + 1)) s0 (x2 + 1)) : G_T_part_28 l v n post σ x2 s0 := by
  refine g_istore_n (L' := [(1, .int s0), (0, .ref (v.2.2 1)), (2, .int x2)]) d_T_part_28 rfl (by decide) rfl ?_
  refine g_aload_n d_T_part_29 1 rfl rfl ?_
  refine g_dup d_T_part_30 rfl ?_
  refine g_getV (x := .int (σ.1 1 6)) d_T_part_31 fl_T_33 (by decide) rfl rfl rfl ?_
  refine g_iconst d_T_part_34 (x := 1) (by decide) ?_
  refine g_iadd d_T_part_35 ?_
  refine g_putI d_T_part_36 fp_T_33 (by decide) rfl rfl ⟨rfl, rfl⟩ ?_
  refine g_iinc (L' := [(2, .int (x2 + 1)), (1, .int s0), (0, .ref (v.2.2 1))]) d_T_part_39 2 rfl (by rfl) (by decide) rfl ?_
  refine g_goto (tgt := 4) d_T_part_42 rfl ?_
  exact g_sub [2, 1, 0] rfl h
set_option maxRecDepth 20000 in
set_option maxHeartbeats 1000000 in
theorem T_T_part_45 {l : Launch} {v : gs_V} {n : Nat} {post : Int32 → gs_S → Prop} {σ : gs_S} {x1 : Int32} (h : gM l v lyC 42 me_T_unturned n [.ref (v.2.2 1)] σ (qI v lyC 42 (fun r1 σ1 => ((x1 = 0 → G_T_part_66 l v n post σ1 r1) ∧ (¬ x1 = 0 → G_T_part_66 l v n post σ1 (((σ1.1 1 3) - 1) - r1)))))) : G_T_part_45 l v n post σ x1 := by
  refine g_aload_n d_T_part_45 0 rfl rfl ?_
  refine g_callVi (av := []) (rest := []) d_T_part_46 Y_T_unturned lk_T_120 (by decide) rfl rfl I_T_unturned rfl (Nat.le_of_ble_eq_true rfl) rfl h (fun r1 σ1 h => ?_)
  refine g_istore_n (L' := [(2, .int r1), (0, .ref (v.2.2 1)), (1, .int x1)]) d_T_part_49 rfl (by decide) rfl ?_
  refine g_iload_n d_T_part_50 2 rfl rfl ?_
  refine g_if_eq (tgt := 65) d_T_part_51 rfl (fun hc => ?_) (fun hc => ?_)
  · have h := h.1 hc
    refine g_iload_n d_T_part_65 0 rfl rfl ?_
    exact g_sub [] rfl h
  · have h := h.2 hc
    refine g_aload_n d_T_part_54 1 rfl rfl ?_
    refine g_getV (x := .int (σ1.1 1 3)) d_T_part_55 fl_T_23 (by decide) rfl rfl rfl ?_
    refine g_iconst d_T_part_58 (x := 1) (by decide) ?_
    refine g_isub d_T_part_59 ?_
    refine g_iload_n d_T_part_60 0 rfl rfl ?_
    refine g_isub d_T_part_61 ?_
    refine g_goto (tgt := 66) d_T_part_62 rfl ?_
    exact g_sub [] rfl h
set_option maxRecDepth 20000 in
set_option maxHeartbeats 1000000 in
theorem T_T_part_66 {l : Launch} {v : gs_V} {n : Nat} {post : Int32 → gs_S → Prop} {σ : gs_S} {s0 : Int32} (h : post s0 σ) : G_T_part_66 l v n post σ s0 := by
  exact g_iret d_T_part_66 rfl h
theorem E_T_part {l : Launch} {v : gs_V} {n : Nat} {post : Int32 → gs_S → Prop} {σ : gs_S} (h : G_T_part_0 l v n post σ) : gM l v lyC 42 me_T_part (n + 1) [.ref (v.2.2 1)] σ (qI v lyC 42 post) := gM_of (by decide +kernel) (Nat.le_of_ble_eq_true rfl) h
/-! LineRules$Text.readInto -/
theorem d_T_readInto_0 : decode me_T_readInto.2.1 0 = .ok (.aload_n 0, 1) := by decide +kernel
theorem d_T_readInto_1 : decode me_T_readInto.2.1 1 = .ok (.invokevirtual 43, 3) := by decide +kernel
theorem d_T_readInto_4 : decode me_T_readInto.2.1 4 = .ok (.istore_n 2, 1) := by decide +kernel
theorem d_T_readInto_5 : decode me_T_readInto.2.1 5 = .ok (.iload_n 2, 1) := by decide +kernel
theorem d_T_readInto_6 : decode me_T_readInto.2.1 6 = .ok (.iconst (-1), 1) := by decide +kernel
theorem d_T_readInto_7 : decode me_T_readInto.2.1 7 = .ok (.if_icmp .ne 8, 3) := by decide +kernel
theorem d_T_readInto_10 : decode me_T_readInto.2.1 10 = .ok (.aload_n 0, 1) := by decide +kernel
theorem d_T_readInto_11 : decode me_T_readInto.2.1 11 = .ok (.aload_n 1, 1) := by decide +kernel
theorem d_T_readInto_12 : decode me_T_readInto.2.1 12 = .ok (.invokevirtual 47, 3) := by decide +kernel
theorem d_T_readInto_15 : decode me_T_readInto.2.1 15 = .ok (.aload_n 0, 1) := by decide +kernel
theorem d_T_readInto_16 : decode me_T_readInto.2.1 16 = .ok (.iconst 0, 1) := by decide +kernel
theorem d_T_readInto_17 : decode me_T_readInto.2.1 17 = .ok (.putfield 19, 3) := by decide +kernel
theorem d_T_readInto_20 : decode me_T_readInto.2.1 20 = .ok (.iload_n 2, 1) := by decide +kernel
theorem d_T_readInto_21 : decode me_T_readInto.2.1 21 = .ok (.ireturn, 1) := by decide +kernel
abbrev G_T_readInto_0 (l : Launch) (v : gs_V) (n : Nat) (post : Int32 → gs_S → Prop) (σ : gs_S) : Prop := gG l v lyC 42 me_T_readInto n (qI v lyC 42 post) 0 [(0, .ref (v.2.2 1)), (1, .ref (v.2.2 4))] [] σ
abbrev G_T_readInto_15 (l : Launch) (v : gs_V) (n : Nat) (post : Int32 → gs_S → Prop) (σ : gs_S) (x2 : Int32) : Prop := gG l v lyC 42 me_T_readInto n (qI v lyC 42 post) 15 [(0, .ref (v.2.2 1)), (2, .int x2)] [] σ
set_option maxRecDepth 20000 in
set_option maxHeartbeats 1000000 in
theorem T_T_readInto_0 {l : Launch} {v : gs_V} {n : Nat} {post : Int32 → gs_S → Prop} {σ : gs_S} (h : gM l v lyC 42 me_T_fault n [.ref (v.2.2 1)] σ (qI v lyC 42 (fun r1 σ1 => ((¬ r1 = ((-1)) → G_T_readInto_15 l v n post σ1 r1) ∧ (r1 = ((-1)) → gM l v lyC 42 me_T_fill n [.ref (v.2.2 1), .ref (v.2.2 4)] σ1 (qV v lyC 42 (fun σ2 => G_T_readInto_15 l v n post σ2 r1))))))) : G_T_readInto_0 l v n post σ := by
  refine g_aload_n d_T_readInto_0 0 rfl rfl ?_
  refine g_callVi (av := []) (rest := []) d_T_readInto_1 Y_T_fault lk_T_43 (by decide) rfl rfl I_T_fault rfl (Nat.le_of_ble_eq_true rfl) rfl h (fun r1 σ1 h => ?_)
  refine g_istore_n (L' := [(2, .int r1), (0, .ref (v.2.2 1)), (1, .ref (v.2.2 4))]) d_T_readInto_4 rfl (by decide) rfl ?_
  refine g_iload_n d_T_readInto_5 0 rfl rfl ?_
  refine g_iconst d_T_readInto_6 (x := (-1)) (by decide) ?_
  refine g_icmp_ne (tgt := 15) d_T_readInto_7 rfl (fun hc => ?_) (fun hc => ?_)
  · have h := h.1 hc
    exact g_sub [1, 0] rfl h
  · have h := h.2 hc
    refine g_aload_n d_T_readInto_10 1 rfl rfl ?_
    refine g_aload_n d_T_readInto_11 2 rfl rfl ?_
    refine g_callVv (av := [.ref (v.2.2 4)]) (rest := []) d_T_readInto_12 Y_T_fill lk_T_47 (by decide) rfl rfl I_T_fill rfl (Nat.le_of_ble_eq_true rfl) rfl h (fun σ2 h => ?_)
    exact g_sub [1, 0] rfl h
set_option maxRecDepth 20000 in
set_option maxHeartbeats 1000000 in
theorem T_T_readInto_15 {l : Launch} {v : gs_V} {n : Nat} {post : Int32 → gs_S → Prop} {σ : gs_S} {x2 : Int32} (h : post x2 (gs_pI σ 1 2 0)) : G_T_readInto_15 l v n post σ x2 := by
  refine g_aload_n d_T_readInto_15 0 rfl rfl ?_
  refine g_iconst d_T_readInto_16 (x := 0) (by decide) ?_
  refine g_putI d_T_readInto_17 fp_T_19 (by decide) rfl rfl ⟨rfl, rfl⟩ ?_
  refine g_iload_n d_T_readInto_20 1 rfl rfl ?_
  exact g_iret d_T_readInto_21 rfl h
theorem E_T_readInto {l : Launch} {v : gs_V} {n : Nat} {post : Int32 → gs_S → Prop} {σ : gs_S} (h : G_T_readInto_0 l v n post σ) : gM l v lyC 42 me_T_readInto (n + 1) [.ref (v.2.2 1), .ref (v.2.2 4)] σ (qI v lyC 42 post) := gM_of (by decide +kernel) (Nat.le_of_ble_eq_true rfl) h
/-! LineRules$Text.sumOf -/
theorem d_T_sumOf_0 : decode me_T_sumOf.2.1 0 = .ok (.iconst 0, 1) := by decide +kernel
theorem d_T_sumOf_1 : decode me_T_sumOf.2.1 1 = .ok (.istore_n 2, 1) := by decide +kernel
theorem d_T_sumOf_2 : decode me_T_sumOf.2.1 2 = .ok (.iload_n 1, 1) := by decide +kernel
theorem d_T_sumOf_3 : decode me_T_sumOf.2.1 3 = .ok (.istore_n 3, 1) := by decide +kernel
theorem d_T_sumOf_4 : decode me_T_sumOf.2.1 4 = .ok (.iconst 0, 1) := by decide +kernel
theorem d_T_sumOf_5 : decode me_T_sumOf.2.1 5 = .ok (.istore 4, 2) := by decide +kernel
theorem d_T_sumOf_7 : decode me_T_sumOf.2.1 7 = .ok (.iload 4, 2) := by decide +kernel
theorem d_T_sumOf_9 : decode me_T_sumOf.2.1 9 = .ok (.aload_n 0, 1) := by decide +kernel
theorem d_T_sumOf_10 : decode me_T_sumOf.2.1 10 = .ok (.getfield 26, 3) := by decide +kernel
theorem d_T_sumOf_13 : decode me_T_sumOf.2.1 13 = .ok (.if_icmp .ge 25, 3) := by decide +kernel
theorem d_T_sumOf_16 : decode me_T_sumOf.2.1 16 = .ok (.iload_n 2, 1) := by decide +kernel
theorem d_T_sumOf_17 : decode me_T_sumOf.2.1 17 = .ok (.iload_n 3, 1) := by decide +kernel
theorem d_T_sumOf_18 : decode me_T_sumOf.2.1 18 = .ok (.aload_n 0, 1) := by decide +kernel
theorem d_T_sumOf_19 : decode me_T_sumOf.2.1 19 = .ok (.getfield 23, 3) := by decide +kernel
theorem d_T_sumOf_22 : decode me_T_sumOf.2.1 22 = .ok (.irem, 1) := by decide +kernel
theorem d_T_sumOf_23 : decode me_T_sumOf.2.1 23 = .ok (.iadd, 1) := by decide +kernel
theorem d_T_sumOf_24 : decode me_T_sumOf.2.1 24 = .ok (.istore_n 2, 1) := by decide +kernel
theorem d_T_sumOf_25 : decode me_T_sumOf.2.1 25 = .ok (.iload_n 3, 1) := by decide +kernel
theorem d_T_sumOf_26 : decode me_T_sumOf.2.1 26 = .ok (.aload_n 0, 1) := by decide +kernel
theorem d_T_sumOf_27 : decode me_T_sumOf.2.1 27 = .ok (.getfield 23, 3) := by decide +kernel
theorem d_T_sumOf_30 : decode me_T_sumOf.2.1 30 = .ok (.idiv, 1) := by decide +kernel
theorem d_T_sumOf_31 : decode me_T_sumOf.2.1 31 = .ok (.istore_n 3, 1) := by decide +kernel
theorem d_T_sumOf_32 : decode me_T_sumOf.2.1 32 = .ok (.iinc 4 1, 3) := by decide +kernel
theorem d_T_sumOf_35 : decode me_T_sumOf.2.1 35 = .ok (.goto (-28), 3) := by decide +kernel
theorem d_T_sumOf_38 : decode me_T_sumOf.2.1 38 = .ok (.iload_n 2, 1) := by decide +kernel
theorem d_T_sumOf_39 : decode me_T_sumOf.2.1 39 = .ok (.ireturn, 1) := by decide +kernel
abbrev G_T_sumOf_0 (l : Launch) (v : gs_V) (n : Nat) (post : Int32 → gs_S → Prop) (σ : gs_S) (x1 : Int32) : Prop := gG l v lyC 42 me_T_sumOf n (qI v lyC 42 post) 0 [(0, .ref (v.2.2 1)), (1, .int x1)] [] σ
abbrev G_T_sumOf_7 (l : Launch) (v : gs_V) (n : Nat) (post : Int32 → gs_S → Prop) (σ : gs_S) (x2 : Int32) (x3 : Int32) (x4 : Int32) : Prop := gG l v lyC 42 me_T_sumOf n (qI v lyC 42 post) 7 [(0, .ref (v.2.2 1)), (2, .int x2), (3, .int x3), (4, .int x4)] [] σ
set_option maxRecDepth 20000 in
set_option maxHeartbeats 1000000 in
theorem T_T_sumOf_0 {l : Launch} {v : gs_V} {n : Nat} {post : Int32 → gs_S → Prop} {σ : gs_S} {x1 : Int32} (h : G_T_sumOf_7 l v n post σ 0 x1 0) : G_T_sumOf_0 l v n post σ x1 := by
  refine g_iconst d_T_sumOf_0 (x := 0) (by decide) ?_
  refine g_istore_n (L' := [(2, .int 0), (0, .ref (v.2.2 1)), (1, .int x1)]) d_T_sumOf_1 rfl (by decide) rfl ?_
  refine g_iload_n d_T_sumOf_2 2 rfl rfl ?_
  refine g_istore_n (L' := [(3, .int x1), (2, .int 0), (0, .ref (v.2.2 1)), (1, .int x1)]) d_T_sumOf_3 rfl (by decide) rfl ?_
  refine g_iconst d_T_sumOf_4 (x := 0) (by decide) ?_
  refine g_istore (L' := [(4, .int 0), (3, .int x1), (2, .int 0), (0, .ref (v.2.2 1)), (1, .int x1)]) d_T_sumOf_5 (by decide) rfl ?_
  exact g_sub [3, 2, 1, 0] rfl h
set_option maxRecDepth 20000 in
set_option maxHeartbeats 1000000 in
theorem T_T_sumOf_7 {l : Launch} {v : gs_V} {n : Nat} {post : Int32 → gs_S → Prop} {σ : gs_S} {x2 : Int32} {x3 : Int32} {x4 : Int32} (h : (((σ.1 1 4) ≤ x4 → post x2 σ) ∧ (¬ (σ.1 1 4) ≤ x4 → ¬ (σ.1 1 3) = 0 ∧ ¬ (σ.1 1 3) = 0 ∧ G_T_sumOf_7 l v n post σ (x2 + (jR x3 (σ.1 1 3))) (x3 / (σ.1 1 3)) (x4 + 1)))) : G_T_sumOf_7 l v n post σ x2 x3 x4 := by
  refine g_iload d_T_sumOf_7 3 rfl ?_
  refine g_aload_n d_T_sumOf_9 0 rfl rfl ?_
  refine g_getV (x := .int (σ.1 1 4)) d_T_sumOf_10 fl_T_26 (by decide) rfl rfl rfl ?_
  refine g_icmp_ge (tgt := 38) d_T_sumOf_13 rfl (fun hc => ?_) (fun hc => ?_)
  · have h := h.1 hc
    refine g_iload_n d_T_sumOf_38 1 rfl rfl ?_
    exact g_iret d_T_sumOf_39 rfl h
  · have h := h.2 hc
    refine g_iload_n d_T_sumOf_16 1 rfl rfl ?_
    refine g_iload_n d_T_sumOf_17 2 rfl rfl ?_
    refine g_aload_n d_T_sumOf_18 0 rfl rfl ?_
    refine g_getV (x := .int (σ.1 1 3)) d_T_sumOf_19 fl_T_23 (by decide) rfl rfl rfl ?_
    refine g_irem d_T_sumOf_22 h.1 ?_
    have h := h.2
    refine g_iadd d_T_sumOf_23 ?_
    refine g_istore_n (L' := [(2, .int (x2 + (jR x3 (σ.1 1 3)))), (0, .ref (v.2.2 1)), (3, .int x3), (4, .int x4)]) d_T_sumOf_24 rfl (by decide) rfl ?_
    refine g_iload_n d_T_sumOf_25 2 rfl rfl ?_
    refine g_aload_n d_T_sumOf_26 1 rfl rfl ?_
    refine g_getV (x := .int (σ.1 1 3)) d_T_sumOf_27 fl_T_23 (by decide) rfl rfl rfl ?_
    refine g_idiv d_T_sumOf_30 h.1 ?_
    have h := h.2
    refine g_istore_n (L' := [(3, .int (x3 / (σ.1 1 3))), (2, .int (x2 + (jR x3 (σ.1 1 3)))), (0, .ref (v.2.2 1)), (4, .int x4)]) d_T_sumOf_31 rfl (by decide) rfl ?_
    refine g_iinc (L' := [(4, .int (x4 + 1)), (3, .int (x3 / (σ.1 1 3))), (2, .int (x2 + (jR x3 (σ.1 1 3)))), (0, .ref (v.2.2 1))]) d_T_sumOf_32 3 rfl (by rfl) (by decide) rfl ?_
    refine g_goto (tgt := 7) d_T_sumOf_35 rfl ?_
    exact g_sub [3, 2, 1, 0] rfl h
theorem E_T_sumOf {l : Launch} {v : gs_V} {n : Nat} {post : Int32 → gs_S → Prop} {σ : gs_S} {x1 : Int32} (h : G_T_sumOf_0 l v n post σ x1) : gM l v lyC 42 me_T_sumOf (n + 1) [.ref (v.2.2 1), .int x1] σ (qI v lyC 42 post) := gM_of (by decide +kernel) (Nat.le_of_ble_eq_true rfl) h
/-! LineRules$Text.together -/
theorem d_T_together_0 : decode me_T_together.2.1 0 = .ok (.iload_n 2, 1) := by decide +kernel
theorem d_T_together_1 : decode me_T_together.2.1 1 = .ok (.lookupswitch 116 #[(38, 65), (43, 93), (45, 102), (60, 82), (61, 71), (124, 59)], 59) := by decide +kernel
theorem d_T_together_60 : decode me_T_together.2.1 60 = .ok (.iload_n 1, 1) := by decide +kernel
theorem d_T_together_61 : decode me_T_together.2.1 61 = .ok (.iload_n 3, 1) := by decide +kernel
theorem d_T_together_62 : decode me_T_together.2.1 62 = .ok (.invokestatic 112, 3) := by decide +kernel
theorem d_T_together_65 : decode me_T_together.2.1 65 = .ok (.ireturn, 1) := by decide +kernel
theorem d_T_together_66 : decode me_T_together.2.1 66 = .ok (.iload_n 1, 1) := by decide +kernel
theorem d_T_together_67 : decode me_T_together.2.1 67 = .ok (.iload_n 3, 1) := by decide +kernel
theorem d_T_together_68 : decode me_T_together.2.1 68 = .ok (.invokestatic 117, 3) := by decide +kernel
theorem d_T_together_71 : decode me_T_together.2.1 71 = .ok (.ireturn, 1) := by decide +kernel
theorem d_T_together_72 : decode me_T_together.2.1 72 = .ok (.iload_n 1, 1) := by decide +kernel
theorem d_T_together_73 : decode me_T_together.2.1 73 = .ok (.iload_n 3, 1) := by decide +kernel
theorem d_T_together_74 : decode me_T_together.2.1 74 = .ok (.if_icmp .ne 7, 3) := by decide +kernel
theorem d_T_together_77 : decode me_T_together.2.1 77 = .ok (.iconst 1, 1) := by decide +kernel
theorem d_T_together_78 : decode me_T_together.2.1 78 = .ok (.goto 4, 3) := by decide +kernel
theorem d_T_together_81 : decode me_T_together.2.1 81 = .ok (.iconst 0, 1) := by decide +kernel
theorem d_T_together_82 : decode me_T_together.2.1 82 = .ok (.ireturn, 1) := by decide +kernel
theorem d_T_together_83 : decode me_T_together.2.1 83 = .ok (.iload_n 1, 1) := by decide +kernel
theorem d_T_together_84 : decode me_T_together.2.1 84 = .ok (.iload_n 3, 1) := by decide +kernel
theorem d_T_together_85 : decode me_T_together.2.1 85 = .ok (.if_icmp .ge 7, 3) := by decide +kernel
theorem d_T_together_88 : decode me_T_together.2.1 88 = .ok (.iconst 1, 1) := by decide +kernel
theorem d_T_together_89 : decode me_T_together.2.1 89 = .ok (.goto 4, 3) := by decide +kernel
theorem d_T_together_92 : decode me_T_together.2.1 92 = .ok (.iconst 0, 1) := by decide +kernel
theorem d_T_together_93 : decode me_T_together.2.1 93 = .ok (.ireturn, 1) := by decide +kernel
theorem d_T_together_94 : decode me_T_together.2.1 94 = .ok (.iload_n 1, 1) := by decide +kernel
theorem d_T_together_95 : decode me_T_together.2.1 95 = .ok (.iload_n 3, 1) := by decide +kernel
theorem d_T_together_96 : decode me_T_together.2.1 96 = .ok (.iadd, 1) := by decide +kernel
theorem d_T_together_97 : decode me_T_together.2.1 97 = .ok (.aload_n 0, 1) := by decide +kernel
theorem d_T_together_98 : decode me_T_together.2.1 98 = .ok (.getfield 23, 3) := by decide +kernel
theorem d_T_together_101 : decode me_T_together.2.1 101 = .ok (.irem, 1) := by decide +kernel
theorem d_T_together_102 : decode me_T_together.2.1 102 = .ok (.ireturn, 1) := by decide +kernel
theorem d_T_together_103 : decode me_T_together.2.1 103 = .ok (.iload_n 1, 1) := by decide +kernel
theorem d_T_together_104 : decode me_T_together.2.1 104 = .ok (.iload_n 3, 1) := by decide +kernel
theorem d_T_together_105 : decode me_T_together.2.1 105 = .ok (.isub, 1) := by decide +kernel
theorem d_T_together_106 : decode me_T_together.2.1 106 = .ok (.aload_n 0, 1) := by decide +kernel
theorem d_T_together_107 : decode me_T_together.2.1 107 = .ok (.getfield 23, 3) := by decide +kernel
theorem d_T_together_110 : decode me_T_together.2.1 110 = .ok (.iadd, 1) := by decide +kernel
theorem d_T_together_111 : decode me_T_together.2.1 111 = .ok (.aload_n 0, 1) := by decide +kernel
theorem d_T_together_112 : decode me_T_together.2.1 112 = .ok (.getfield 23, 3) := by decide +kernel
theorem d_T_together_115 : decode me_T_together.2.1 115 = .ok (.irem, 1) := by decide +kernel
theorem d_T_together_116 : decode me_T_together.2.1 116 = .ok (.ireturn, 1) := by decide +kernel
theorem d_T_together_117 : decode me_T_together.2.1 117 = .ok (.iload_n 1, 1) := by decide +kernel
theorem d_T_together_118 : decode me_T_together.2.1 118 = .ok (.iload_n 3, 1) := by decide +kernel
theorem d_T_together_119 : decode me_T_together.2.1 119 = .ok (.imul, 1) := by decide +kernel
theorem d_T_together_120 : decode me_T_together.2.1 120 = .ok (.aload_n 0, 1) := by decide +kernel
theorem d_T_together_121 : decode me_T_together.2.1 121 = .ok (.getfield 23, 3) := by decide +kernel
theorem d_T_together_124 : decode me_T_together.2.1 124 = .ok (.irem, 1) := by decide +kernel
theorem d_T_together_125 : decode me_T_together.2.1 125 = .ok (.ireturn, 1) := by decide +kernel
abbrev G_T_together_0 (l : Launch) (v : gs_V) (n : Nat) (post : Int32 → gs_S → Prop) (σ : gs_S) (x1 : Int32) (x2 : Int32) (x3 : Int32) : Prop := gG l v lyC 42 me_T_together n (qI v lyC 42 post) 0 [(0, .ref (v.2.2 1)), (1, .int x1), (2, .int x2), (3, .int x3)] [] σ
abbrev G_T_together_82 (l : Launch) (v : gs_V) (n : Nat) (post : Int32 → gs_S → Prop) (σ : gs_S) (s0 : Int32) : Prop := gG l v lyC 42 me_T_together n (qI v lyC 42 post) 82 [] [.int s0] σ
abbrev G_T_together_93 (l : Launch) (v : gs_V) (n : Nat) (post : Int32 → gs_S → Prop) (σ : gs_S) (s0 : Int32) : Prop := gG l v lyC 42 me_T_together n (qI v lyC 42 post) 93 [] [.int s0] σ
set_option maxRecDepth 20000 in
set_option maxHeartbeats 1000000 in
theorem T_T_together_0 {l : Launch} {v : gs_V} {n : Nat} {post : Int32 → gs_S → Prop} {σ : gs_S} {x1 : Int32} {x2 : Int32} {x3 : Int32} (h : ((x2 = 38 → gM l v lyC 42 me_J_min n [.int x1, .int x3] σ (qI v lyC 42 (fun r1 σ1 => post r1 σ1))) ∧ (x2 = 43 → ¬ (σ.1 1 3) = 0 ∧ post (jR (x1 + x3) (σ.1 1 3)) σ) ∧ (x2 = 45 → ¬ (σ.1 1 3) = 0 ∧ post (jR ((x1 - x3) + (σ.1 1 3)) (σ.1 1 3)) σ) ∧ (x2 = 60 → ((x3 ≤ x1 → G_T_together_93 l v n post σ 0) ∧ (¬ x3 ≤ x1 → G_T_together_93 l v n post σ 1))) ∧ (x2 = 61 → ((¬ x1 = x3 → G_T_together_82 l v n post σ 0) ∧ (x1 = x3 → G_T_together_82 l v n post σ 1))) ∧ (x2 = 124 → gM l v lyC 42 me_J_max n [.int x1, .int x3] σ (qI v lyC 42 (fun r2 σ2 => post r2 σ2))) ∧ (¬ x2 = 38 → ¬ x2 = 43 → ¬ x2 = 45 → ¬ x2 = 60 → ¬ x2 = 61 → ¬ x2 = 124 → ¬ (σ.1 1 3) = 0 ∧ post (jR (x1 * x3) (σ.1 1 3)) σ))) : G_T_together_0 l v n post σ x1 x2 x3 := by
  refine g_iload_n d_T_together_0 2 rfl rfl ?_
  by_cases hk0 : x2 = 38
  · refine g_lookup (tgt := 66) d_T_together_1 (by decide +kernel) (by rw [hk0] <;> decide +kernel) rfl ?_
    have h := h.1 hk0
    refine g_iload_n d_T_together_66 1 rfl rfl ?_
    refine g_iload_n d_T_together_67 3 rfl rfl ?_
    refine g_callSi (av := [.int x1, .int x3]) (rest := []) d_T_together_68 Y_J_min lk_T_117 I_J_min rfl (Nat.le_of_ble_eq_true rfl) rfl h (fun r1 σ1 h => ?_)
    exact g_iret d_T_together_71 rfl h
  have h := h.2
  by_cases hk1 : x2 = 43
  · refine g_lookup (tgt := 94) d_T_together_1 (by decide +kernel) (by rw [hk1] <;> decide +kernel) rfl ?_
    have h := h.1 hk1
    refine g_iload_n d_T_together_94 1 rfl rfl ?_
    refine g_iload_n d_T_together_95 3 rfl rfl ?_
    refine g_iadd d_T_together_96 ?_
    refine g_aload_n d_T_together_97 0 rfl rfl ?_
    refine g_getV (x := .int (σ.1 1 3)) d_T_together_98 fl_T_23 (by decide) rfl rfl rfl ?_
    refine g_irem d_T_together_101 h.1 ?_
    have h := h.2
    exact g_iret d_T_together_102 rfl h
  have h := h.2
  by_cases hk2 : x2 = 45
  · refine g_lookup (tgt := 103) d_T_together_1 (by decide +kernel) (by rw [hk2] <;> decide +kernel) rfl ?_
    have h := h.1 hk2
    refine g_iload_n d_T_together_103 1 rfl rfl ?_
    refine g_iload_n d_T_together_104 3 rfl rfl ?_
    refine g_isub d_T_together_105 ?_
    refine g_aload_n d_T_together_106 0 rfl rfl ?_
    refine g_getV (x := .int (σ.1 1 3)) d_T_together_107 fl_T_23 (by decide) rfl rfl rfl ?_
    refine g_iadd d_T_together_110 ?_
    refine g_aload_n d_T_together_111 0 rfl rfl ?_
    refine g_getV (x := .int (σ.1 1 3)) d_T_together_112 fl_T_23 (by decide) rfl rfl rfl ?_
    refine g_irem d_T_together_115 h.1 ?_
    have h := h.2
    exact g_iret d_T_together_116 rfl h
  have h := h.2
  by_cases hk3 : x2 = 60
  · refine g_lookup (tgt := 83) d_T_together_1 (by decide +kernel) (by rw [hk3] <;> decide +kernel) rfl ?_
    have h := h.1 hk3
    refine g_iload_n d_T_together_83 1 rfl rfl ?_
    refine g_iload_n d_T_together_84 3 rfl rfl ?_
    refine g_icmp_ge (tgt := 92) d_T_together_85 rfl (fun hc => ?_) (fun hc => ?_)
    · have h := h.1 hc
      refine g_iconst d_T_together_92 (x := 0) (by decide) ?_
      exact g_sub [] rfl h
    · have h := h.2 hc
      refine g_iconst d_T_together_88 (x := 1) (by decide) ?_
      refine g_goto (tgt := 93) d_T_together_89 rfl ?_
      exact g_sub [] rfl h
  have h := h.2
  by_cases hk4 : x2 = 61
  · refine g_lookup (tgt := 72) d_T_together_1 (by decide +kernel) (by rw [hk4] <;> decide +kernel) rfl ?_
    have h := h.1 hk4
    refine g_iload_n d_T_together_72 1 rfl rfl ?_
    refine g_iload_n d_T_together_73 3 rfl rfl ?_
    refine g_icmp_ne (tgt := 81) d_T_together_74 rfl (fun hc => ?_) (fun hc => ?_)
    · have h := h.1 hc
      refine g_iconst d_T_together_81 (x := 0) (by decide) ?_
      exact g_sub [] rfl h
    · have h := h.2 hc
      refine g_iconst d_T_together_77 (x := 1) (by decide) ?_
      refine g_goto (tgt := 82) d_T_together_78 rfl ?_
      exact g_sub [] rfl h
  have h := h.2
  by_cases hk5 : x2 = 124
  · refine g_lookup (tgt := 60) d_T_together_1 (by decide +kernel) (by rw [hk5] <;> decide +kernel) rfl ?_
    have h := h.1 hk5
    refine g_iload_n d_T_together_60 1 rfl rfl ?_
    refine g_iload_n d_T_together_61 3 rfl rfl ?_
    refine g_callSi (av := [.int x1, .int x3]) (rest := []) d_T_together_62 Y_J_max lk_T_112 I_J_max rfl (Nat.le_of_ble_eq_true rfl) rfl h (fun r2 σ2 h => ?_)
    exact g_iret d_T_together_65 rfl h
  have h := h.2
  refine g_lookup (tgt := 117) d_T_together_1 (by decide +kernel) (by show Op.lookupswitch.offset [(38, 65), (43, 93), (45, 102), (60, 82), (61, 71), (124, 59)] _ _ = _; rw [lv_osw hk0 (by decide +kernel), lv_osw hk1 (by decide +kernel), lv_osw hk2 (by decide +kernel), lv_osw hk3 (by decide +kernel), lv_osw hk4 (by decide +kernel), lv_osw hk5 (by decide +kernel)] <;> rfl) rfl ?_
  have h := h hk0 hk1 hk2 hk3 hk4 hk5
  refine g_iload_n d_T_together_117 1 rfl rfl ?_
  refine g_iload_n d_T_together_118 3 rfl rfl ?_
  refine g_imul d_T_together_119 ?_
  refine g_aload_n d_T_together_120 0 rfl rfl ?_
  refine g_getV (x := .int (σ.1 1 3)) d_T_together_121 fl_T_23 (by decide) rfl rfl rfl ?_
  refine g_irem d_T_together_124 h.1 ?_
  have h := h.2
  exact g_iret d_T_together_125 rfl h
set_option maxRecDepth 20000 in
set_option maxHeartbeats 1000000 in
theorem T_T_together_82 {l : Launch} {v : gs_V} {n : Nat} {post : Int32 → gs_S → Prop} {σ : gs_S} {s0 : Int32} (h : post s0 σ) : G_T_together_82 l v n post σ s0 := by
  exact g_iret d_T_together_82 rfl h
set_option maxRecDepth 20000 in
set_option maxHeartbeats 1000000 in
theorem T_T_together_93 {l : Launch} {v : gs_V} {n : Nat} {post : Int32 → gs_S → Prop} {σ : gs_S} {s0 : Int32} (h : post s0 σ) : G_T_together_93 l v n post σ s0 := by
  exact g_iret d_T_together_93 rfl h
theorem E_T_together {l : Launch} {v : gs_V} {n : Nat} {post : Int32 → gs_S → Prop} {σ : gs_S} {x1 : Int32} {x2 : Int32} {x3 : Int32} (h : G_T_together_0 l v n post σ x1 x2 x3) : gM l v lyC 42 me_T_together (n + 1) [.ref (v.2.2 1), .int x1, .int x2, .int x3] σ (qI v lyC 42 post) := gM_of (by decide +kernel) (Nat.le_of_ble_eq_true rfl) h
/-! LineRules$Text.unturned -/
theorem d_T_unturned_0 : decode me_T_unturned.2.1 0 = .ok (.aload_n 0, 1) := by decide +kernel
theorem d_T_unturned_1 : decode me_T_unturned.2.1 1 = .ok (.invokevirtual 93, 3) := by decide +kernel
theorem d_T_unturned_4 : decode me_T_unturned.2.1 4 = .ok (.istore_n 1, 1) := by decide +kernel
theorem d_T_unturned_5 : decode me_T_unturned.2.1 5 = .ok (.iload_n 1, 1) := by decide +kernel
theorem d_T_unturned_6 : decode me_T_unturned.2.1 6 = .ok (.bipush 48, 2) := by decide +kernel
theorem d_T_unturned_8 : decode me_T_unturned.2.1 8 = .ok (.if_icmp .lt 29, 3) := by decide +kernel
theorem d_T_unturned_11 : decode me_T_unturned.2.1 11 = .ok (.iload_n 1, 1) := by decide +kernel
theorem d_T_unturned_12 : decode me_T_unturned.2.1 12 = .ok (.bipush 57, 2) := by decide +kernel
theorem d_T_unturned_14 : decode me_T_unturned.2.1 14 = .ok (.if_icmp .gt 23, 3) := by decide +kernel
theorem d_T_unturned_17 : decode me_T_unturned.2.1 17 = .ok (.aload_n 0, 1) := by decide +kernel
theorem d_T_unturned_18 : decode me_T_unturned.2.1 18 = .ok (.dup, 1) := by decide +kernel
theorem d_T_unturned_19 : decode me_T_unturned.2.1 19 = .ok (.getfield 33, 3) := by decide +kernel
theorem d_T_unturned_22 : decode me_T_unturned.2.1 22 = .ok (.iconst 1, 1) := by decide +kernel
theorem d_T_unturned_23 : decode me_T_unturned.2.1 23 = .ok (.iadd, 1) := by decide +kernel
theorem d_T_unturned_24 : decode me_T_unturned.2.1 24 = .ok (.putfield 33, 3) := by decide +kernel
theorem d_T_unturned_27 : decode me_T_unturned.2.1 27 = .ok (.iload_n 1, 1) := by decide +kernel
theorem d_T_unturned_28 : decode me_T_unturned.2.1 28 = .ok (.bipush 48, 2) := by decide +kernel
theorem d_T_unturned_30 : decode me_T_unturned.2.1 30 = .ok (.isub, 1) := by decide +kernel
theorem d_T_unturned_31 : decode me_T_unturned.2.1 31 = .ok (.aload_n 0, 1) := by decide +kernel
theorem d_T_unturned_32 : decode me_T_unturned.2.1 32 = .ok (.getfield 23, 3) := by decide +kernel
theorem d_T_unturned_35 : decode me_T_unturned.2.1 35 = .ok (.irem, 1) := by decide +kernel
theorem d_T_unturned_36 : decode me_T_unturned.2.1 36 = .ok (.ireturn, 1) := by decide +kernel
theorem d_T_unturned_37 : decode me_T_unturned.2.1 37 = .ok (.iload_n 1, 1) := by decide +kernel
theorem d_T_unturned_38 : decode me_T_unturned.2.1 38 = .ok (.bipush 97, 2) := by decide +kernel
theorem d_T_unturned_40 : decode me_T_unturned.2.1 40 = .ok (.if_icmp .lt 34, 3) := by decide +kernel
theorem d_T_unturned_43 : decode me_T_unturned.2.1 43 = .ok (.iload_n 1, 1) := by decide +kernel
theorem d_T_unturned_44 : decode me_T_unturned.2.1 44 = .ok (.bipush 97, 2) := by decide +kernel
theorem d_T_unturned_46 : decode me_T_unturned.2.1 46 = .ok (.aload_n 0, 1) := by decide +kernel
theorem d_T_unturned_47 : decode me_T_unturned.2.1 47 = .ok (.getfield 26, 3) := by decide +kernel
theorem d_T_unturned_50 : decode me_T_unturned.2.1 50 = .ok (.iadd, 1) := by decide +kernel
theorem d_T_unturned_51 : decode me_T_unturned.2.1 51 = .ok (.if_icmp .ge 23, 3) := by decide +kernel
theorem d_T_unturned_54 : decode me_T_unturned.2.1 54 = .ok (.aload_n 0, 1) := by decide +kernel
theorem d_T_unturned_55 : decode me_T_unturned.2.1 55 = .ok (.dup, 1) := by decide +kernel
theorem d_T_unturned_56 : decode me_T_unturned.2.1 56 = .ok (.getfield 33, 3) := by decide +kernel
theorem d_T_unturned_59 : decode me_T_unturned.2.1 59 = .ok (.iconst 1, 1) := by decide +kernel
theorem d_T_unturned_60 : decode me_T_unturned.2.1 60 = .ok (.iadd, 1) := by decide +kernel
theorem d_T_unturned_61 : decode me_T_unturned.2.1 61 = .ok (.putfield 33, 3) := by decide +kernel
theorem d_T_unturned_64 : decode me_T_unturned.2.1 64 = .ok (.aload_n 0, 1) := by decide +kernel
theorem d_T_unturned_65 : decode me_T_unturned.2.1 65 = .ok (.getfield 15, 3) := by decide +kernel
theorem d_T_unturned_68 : decode me_T_unturned.2.1 68 = .ok (.iload_n 1, 1) := by decide +kernel
theorem d_T_unturned_69 : decode me_T_unturned.2.1 69 = .ok (.bipush 97, 2) := by decide +kernel
theorem d_T_unturned_71 : decode me_T_unturned.2.1 71 = .ok (.isub, 1) := by decide +kernel
theorem d_T_unturned_72 : decode me_T_unturned.2.1 72 = .ok (.iaload, 1) := by decide +kernel
theorem d_T_unturned_73 : decode me_T_unturned.2.1 73 = .ok (.ireturn, 1) := by decide +kernel
theorem d_T_unturned_74 : decode me_T_unturned.2.1 74 = .ok (.iload_n 1, 1) := by decide +kernel
theorem d_T_unturned_75 : decode me_T_unturned.2.1 75 = .ok (.bipush 40, 2) := by decide +kernel
theorem d_T_unturned_77 : decode me_T_unturned.2.1 77 = .ok (.if_icmp .ne 8, 3) := by decide +kernel
theorem d_T_unturned_80 : decode me_T_unturned.2.1 80 = .ok (.aload_n 0, 1) := by decide +kernel
theorem d_T_unturned_81 : decode me_T_unturned.2.1 81 = .ok (.invokevirtual 123, 3) := by decide +kernel
theorem d_T_unturned_84 : decode me_T_unturned.2.1 84 = .ok (.ireturn, 1) := by decide +kernel
theorem d_T_unturned_85 : decode me_T_unturned.2.1 85 = .ok (.aload_n 0, 1) := by decide +kernel
theorem d_T_unturned_86 : decode me_T_unturned.2.1 86 = .ok (.iconst 1, 1) := by decide +kernel
theorem d_T_unturned_87 : decode me_T_unturned.2.1 87 = .ok (.putfield 39, 3) := by decide +kernel
theorem d_T_unturned_90 : decode me_T_unturned.2.1 90 = .ok (.iconst 0, 1) := by decide +kernel
theorem d_T_unturned_91 : decode me_T_unturned.2.1 91 = .ok (.ireturn, 1) := by decide +kernel
abbrev G_T_unturned_0 (l : Launch) (v : gs_V) (n : Nat) (post : Int32 → gs_S → Prop) (σ : gs_S) : Prop := gG l v lyC 42 me_T_unturned n (qI v lyC 42 post) 0 [(0, .ref (v.2.2 1))] [] σ
abbrev G_T_unturned_37 (l : Launch) (v : gs_V) (n : Nat) (post : Int32 → gs_S → Prop) (σ : gs_S) (x1 : Int32) : Prop := gG l v lyC 42 me_T_unturned n (qI v lyC 42 post) 37 [(0, .ref (v.2.2 1)), (1, .int x1)] [] σ
abbrev G_T_unturned_74 (l : Launch) (v : gs_V) (n : Nat) (post : Int32 → gs_S → Prop) (σ : gs_S) (x1 : Int32) : Prop := gG l v lyC 42 me_T_unturned n (qI v lyC 42 post) 74 [(0, .ref (v.2.2 1)), (1, .int x1)] [] σ
set_option maxRecDepth 20000 in
set_option maxHeartbeats 1000000 in
theorem T_T_unturned_0 {l : Launch} {v : gs_V} {n : Nat} {post : Int32 → gs_S → Prop} {σ : gs_S} (h : gM l v lyC 42 me_T_here n [.ref (v.2.2 1)] σ (qI v lyC 42 (fun r1 σ1 => ((r1 < 48 → G_T_unturned_37 l v n post σ1 r1) ∧ (¬ r1 < 48 → ((57 < r1 → G_T_unturned_37 l v n post σ1 r1) ∧ (¬ 57 < r1 → ¬ (σ1.1 1 3) = 0 ∧ post (jR (r1 - 48) (σ1.1 1 3)) (gs_pI σ1 1 6 ((σ1.1 1 6) + 1))))))))) : G_T_unturned_0 l v n post σ := by
  refine g_aload_n d_T_unturned_0 0 rfl rfl ?_
  refine g_callVi (av := []) (rest := []) d_T_unturned_1 Y_T_here lk_T_93 (by decide) rfl rfl I_T_here rfl (Nat.le_of_ble_eq_true rfl) rfl h (fun r1 σ1 h => ?_)
  refine g_istore_n (L' := [(1, .int r1), (0, .ref (v.2.2 1))]) d_T_unturned_4 rfl (by decide) rfl ?_
  refine g_iload_n d_T_unturned_5 0 rfl rfl ?_
  refine g_bipush d_T_unturned_6 (x := 48) (by decide) ?_
  refine g_icmp_lt (tgt := 37) d_T_unturned_8 rfl (fun hc => ?_) (fun hc => ?_)
  · have h := h.1 hc
    exact g_sub [1, 0] rfl h
  · have h := h.2 hc
    refine g_iload_n d_T_unturned_11 0 rfl rfl ?_
    refine g_bipush d_T_unturned_12 (x := 57) (by decide) ?_
    refine g_icmp_gt (tgt := 37) d_T_unturned_14 rfl (fun hc => ?_) (fun hc => ?_)
    · have h := h.1 hc
      exact g_sub [1, 0] rfl h
    · have h := h.2 hc
      refine g_aload_n d_T_unturned_17 1 rfl rfl ?_
      refine g_dup d_T_unturned_18 rfl ?_
      refine g_getV (x := .int (σ1.1 1 6)) d_T_unturned_19 fl_T_33 (by decide) rfl rfl rfl ?_
      refine g_iconst d_T_unturned_22 (x := 1) (by decide) ?_
      refine g_iadd d_T_unturned_23 ?_
      refine g_putI d_T_unturned_24 fp_T_33 (by decide) rfl rfl ⟨rfl, rfl⟩ ?_
      refine g_iload_n d_T_unturned_27 0 rfl rfl ?_
      refine g_bipush d_T_unturned_28 (x := 48) (by decide) ?_
      refine g_isub d_T_unturned_30 ?_
      refine g_aload_n d_T_unturned_31 1 rfl rfl ?_
      refine g_getV (x := .int (σ1.1 1 3)) d_T_unturned_32 fl_T_23 (by decide) rfl rfl rfl ?_
      refine g_irem d_T_unturned_35 h.1 ?_
      have h := h.2
      exact g_iret d_T_unturned_36 rfl h
set_option maxRecDepth 20000 in
set_option maxHeartbeats 1000000 in
theorem T_T_unturned_37 {l : Launch} {v : gs_V} {n : Nat} {post : Int32 → gs_S → Prop} {σ : gs_S} {x1 : Int32} (h : ((x1 < 97 → G_T_unturned_74 l v n post σ x1) ∧ (¬ x1 < 97 → (((97 + (σ.1 1 4)) ≤ x1 → G_T_unturned_74 l v n post σ x1) ∧ (¬ (97 + (σ.1 1 4)) ≤ x1 → vp_in (x1 - 97) 4 ∧ post (σ.1 3 ((x1 - 97).toNatClampNeg)) (gs_pI σ 1 6 ((σ.1 1 6) + 1))))))) : G_T_unturned_37 l v n post σ x1 := by
  refine g_iload_n d_T_unturned_37 1 rfl rfl ?_
  refine g_bipush d_T_unturned_38 (x := 97) (by decide) ?_
  refine g_icmp_lt (tgt := 74) d_T_unturned_40 rfl (fun hc => ?_) (fun hc => ?_)
  · have h := h.1 hc
    exact h
  · have h := h.2 hc
    refine g_iload_n d_T_unturned_43 1 rfl rfl ?_
    refine g_bipush d_T_unturned_44 (x := 97) (by decide) ?_
    refine g_aload_n d_T_unturned_46 0 rfl rfl ?_
    refine g_getV (x := .int (σ.1 1 4)) d_T_unturned_47 fl_T_26 (by decide) rfl rfl rfl ?_
    refine g_iadd d_T_unturned_50 ?_
    refine g_icmp_ge (tgt := 74) d_T_unturned_51 rfl (fun hc => ?_) (fun hc => ?_)
    · have h := h.1 hc
      exact h
    · have h := h.2 hc
      refine g_aload_n d_T_unturned_54 0 rfl rfl ?_
      refine g_dup d_T_unturned_55 rfl ?_
      refine g_getV (x := .int (σ.1 1 6)) d_T_unturned_56 fl_T_33 (by decide) rfl rfl rfl ?_
      refine g_iconst d_T_unturned_59 (x := 1) (by decide) ?_
      refine g_iadd d_T_unturned_60 ?_
      refine g_putI d_T_unturned_61 fp_T_33 (by decide) rfl rfl ⟨rfl, rfl⟩ ?_
      refine g_aload_n d_T_unturned_64 0 rfl rfl ?_
      refine g_getV (x := .ref (v.2.2 3)) d_T_unturned_65 fl_T_15 (by decide) rfl rfl rfl ?_
      refine g_iload_n d_T_unturned_68 1 rfl rfl ?_
      refine g_bipush d_T_unturned_69 (x := 97) (by decide) ?_
      refine g_isub d_T_unturned_71 ?_
      have hi1 := h.1
      have h := h.2
      refine g_iald (x := σ.1 3 ((x1 - 97).toNatClampNeg)) d_T_unturned_72 (by decide) rfl hi1 rfl ?_
      exact g_iret d_T_unturned_73 rfl h
set_option maxRecDepth 20000 in
set_option maxHeartbeats 1000000 in
theorem T_T_unturned_74 {l : Launch} {v : gs_V} {n : Nat} {post : Int32 → gs_S → Prop} {σ : gs_S} {x1 : Int32} (h : ((¬ x1 = 40 → post 0 (gs_pI σ 1 8 1)) ∧ (x1 = 40 → gM l v lyC 42 me_T_bracket n [.ref (v.2.2 1)] σ (qI v lyC 42 (fun r1 σ1 => post r1 σ1))))) : G_T_unturned_74 l v n post σ x1 := by
  refine g_iload_n d_T_unturned_74 1 rfl rfl ?_
  refine g_bipush d_T_unturned_75 (x := 40) (by decide) ?_
  refine g_icmp_ne (tgt := 85) d_T_unturned_77 rfl (fun hc => ?_) (fun hc => ?_)
  · have h := h.1 hc
    refine g_aload_n d_T_unturned_85 0 rfl rfl ?_
    refine g_iconst d_T_unturned_86 (x := 1) (by decide) ?_
    refine g_putI d_T_unturned_87 fp_T_39 (by decide) rfl rfl ⟨rfl, rfl⟩ ?_
    refine g_iconst d_T_unturned_90 (x := 0) (by decide) ?_
    exact g_iret d_T_unturned_91 rfl h
  · have h := h.2 hc
    refine g_aload_n d_T_unturned_80 0 rfl rfl ?_
    refine g_callVi (av := []) (rest := []) d_T_unturned_81 Y_T_bracket lk_T_123 (by decide) rfl rfl I_T_bracket rfl (Nat.le_of_ble_eq_true rfl) rfl h (fun r1 σ1 h => ?_)
    exact g_iret d_T_unturned_84 rfl h
theorem E_T_unturned {l : Launch} {v : gs_V} {n : Nat} {post : Int32 → gs_S → Prop} {σ : gs_S} (h : G_T_unturned_0 l v n post σ) : gM l v lyC 42 me_T_unturned (n + 1) [.ref (v.2.2 1)] σ (qI v lyC 42 post) := gM_of (by decide +kernel) (Nat.le_of_ble_eq_true rfl) h
/-! LineRules$Text.valueFor -/
theorem d_T_valueFor_0 : decode me_T_valueFor.2.1 0 = .ok (.iload_n 1, 1) := by decide +kernel
theorem d_T_valueFor_1 : decode me_T_valueFor.2.1 1 = .ok (.istore_n 2, 1) := by decide +kernel
theorem d_T_valueFor_2 : decode me_T_valueFor.2.1 2 = .ok (.aload_n 0, 1) := by decide +kernel
theorem d_T_valueFor_3 : decode me_T_valueFor.2.1 3 = .ok (.getfield 26, 3) := by decide +kernel
theorem d_T_valueFor_6 : decode me_T_valueFor.2.1 6 = .ok (.iconst 1, 1) := by decide +kernel
theorem d_T_valueFor_7 : decode me_T_valueFor.2.1 7 = .ok (.isub, 1) := by decide +kernel
theorem d_T_valueFor_8 : decode me_T_valueFor.2.1 8 = .ok (.istore_n 3, 1) := by decide +kernel
theorem d_T_valueFor_9 : decode me_T_valueFor.2.1 9 = .ok (.iload_n 3, 1) := by decide +kernel
theorem d_T_valueFor_10 : decode me_T_valueFor.2.1 10 = .ok (.ifCond .lt 28, 3) := by decide +kernel
theorem d_T_valueFor_13 : decode me_T_valueFor.2.1 13 = .ok (.aload_n 0, 1) := by decide +kernel
theorem d_T_valueFor_14 : decode me_T_valueFor.2.1 14 = .ok (.getfield 15, 3) := by decide +kernel
theorem d_T_valueFor_17 : decode me_T_valueFor.2.1 17 = .ok (.iload_n 3, 1) := by decide +kernel
theorem d_T_valueFor_18 : decode me_T_valueFor.2.1 18 = .ok (.iload_n 2, 1) := by decide +kernel
theorem d_T_valueFor_19 : decode me_T_valueFor.2.1 19 = .ok (.aload_n 0, 1) := by decide +kernel
theorem d_T_valueFor_20 : decode me_T_valueFor.2.1 20 = .ok (.getfield 23, 3) := by decide +kernel
theorem d_T_valueFor_23 : decode me_T_valueFor.2.1 23 = .ok (.irem, 1) := by decide +kernel
theorem d_T_valueFor_24 : decode me_T_valueFor.2.1 24 = .ok (.iastore, 1) := by decide +kernel
theorem d_T_valueFor_25 : decode me_T_valueFor.2.1 25 = .ok (.iload_n 2, 1) := by decide +kernel
theorem d_T_valueFor_26 : decode me_T_valueFor.2.1 26 = .ok (.aload_n 0, 1) := by decide +kernel
theorem d_T_valueFor_27 : decode me_T_valueFor.2.1 27 = .ok (.getfield 23, 3) := by decide +kernel
theorem d_T_valueFor_30 : decode me_T_valueFor.2.1 30 = .ok (.idiv, 1) := by decide +kernel
theorem d_T_valueFor_31 : decode me_T_valueFor.2.1 31 = .ok (.istore_n 2, 1) := by decide +kernel
theorem d_T_valueFor_32 : decode me_T_valueFor.2.1 32 = .ok (.iinc 3 (-1), 3) := by decide +kernel
theorem d_T_valueFor_35 : decode me_T_valueFor.2.1 35 = .ok (.goto (-26), 3) := by decide +kernel
theorem d_T_valueFor_38 : decode me_T_valueFor.2.1 38 = .ok (.aload_n 0, 1) := by decide +kernel
theorem d_T_valueFor_39 : decode me_T_valueFor.2.1 39 = .ok (.iconst 3, 1) := by decide +kernel
theorem d_T_valueFor_40 : decode me_T_valueFor.2.1 40 = .ok (.putfield 33, 3) := by decide +kernel
theorem d_T_valueFor_43 : decode me_T_valueFor.2.1 43 = .ok (.aload_n 0, 1) := by decide +kernel
theorem d_T_valueFor_44 : decode me_T_valueFor.2.1 44 = .ok (.iconst 0, 1) := by decide +kernel
theorem d_T_valueFor_45 : decode me_T_valueFor.2.1 45 = .ok (.putfield 36, 3) := by decide +kernel
theorem d_T_valueFor_48 : decode me_T_valueFor.2.1 48 = .ok (.aload_n 0, 1) := by decide +kernel
theorem d_T_valueFor_49 : decode me_T_valueFor.2.1 49 = .ok (.iconst 0, 1) := by decide +kernel
theorem d_T_valueFor_50 : decode me_T_valueFor.2.1 50 = .ok (.putfield 39, 3) := by decide +kernel
theorem d_T_valueFor_53 : decode me_T_valueFor.2.1 53 = .ok (.aload_n 0, 1) := by decide +kernel
theorem d_T_valueFor_54 : decode me_T_valueFor.2.1 54 = .ok (.invokevirtual 87, 3) := by decide +kernel
theorem d_T_valueFor_57 : decode me_T_valueFor.2.1 57 = .ok (.ireturn, 1) := by decide +kernel
abbrev G_T_valueFor_0 (l : Launch) (v : gs_V) (n : Nat) (post : Int32 → gs_S → Prop) (σ : gs_S) (x1 : Int32) : Prop := gG l v lyC 42 me_T_valueFor n (qI v lyC 42 post) 0 [(0, .ref (v.2.2 1)), (1, .int x1)] [] σ
abbrev G_T_valueFor_9 (l : Launch) (v : gs_V) (n : Nat) (post : Int32 → gs_S → Prop) (σ : gs_S) (x2 : Int32) (x3 : Int32) : Prop := gG l v lyC 42 me_T_valueFor n (qI v lyC 42 post) 9 [(0, .ref (v.2.2 1)), (2, .int x2), (3, .int x3)] [] σ
set_option maxRecDepth 20000 in
set_option maxHeartbeats 1000000 in
theorem T_T_valueFor_0 {l : Launch} {v : gs_V} {n : Nat} {post : Int32 → gs_S → Prop} {σ : gs_S} {x1 : Int32} (h : G_T_valueFor_9 l v n post σ x1 ((σ.1 1 4) - 1)) : G_T_valueFor_0 l v n post σ x1 := by
  refine g_iload_n d_T_valueFor_0 1 rfl rfl ?_
  refine g_istore_n (L' := [(2, .int x1), (0, .ref (v.2.2 1)), (1, .int x1)]) d_T_valueFor_1 rfl (by decide) rfl ?_
  refine g_aload_n d_T_valueFor_2 1 rfl rfl ?_
  refine g_getV (x := .int (σ.1 1 4)) d_T_valueFor_3 fl_T_26 (by decide) rfl rfl rfl ?_
  refine g_iconst d_T_valueFor_6 (x := 1) (by decide) ?_
  refine g_isub d_T_valueFor_7 ?_
  refine g_istore_n (L' := [(3, .int ((σ.1 1 4) - 1)), (2, .int x1), (0, .ref (v.2.2 1)), (1, .int x1)]) d_T_valueFor_8 rfl (by decide) rfl ?_
  exact g_sub [2, 1, 0] rfl h
set_option maxRecDepth 20000 in
set_option maxHeartbeats 1000000 in
theorem T_T_valueFor_9 {l : Launch} {v : gs_V} {n : Nat} {post : Int32 → gs_S → Prop} {σ : gs_S} {x2 : Int32} {x3 : Int32} (h : ((x3 < 0 → gM l v lyC 42 me_T_choice n [.ref (v.2.2 1)] (gs_pI (gs_pI (gs_pI σ 1 6 3) 1 7 0) 1 8 0) (qI v lyC 42 (fun r1 σ1 => post r1 σ1))) ∧ (¬ x3 < 0 → ¬ (σ.1 1 3) = 0 ∧ vp_in x3 4 ∧ ¬ (σ.1 1 3) = 0 ∧ G_T_valueFor_9 l v n post (gs_pI σ 3 x3.toNatClampNeg (jR x2 (σ.1 1 3))) (x2 / (σ.1 1 3)) (x3 + (-1))))) : G_T_valueFor_9 l v n post σ x2 x3 := by
  refine g_iload_n d_T_valueFor_9 2 rfl rfl ?_
  refine g_if_lt (tgt := 38) d_T_valueFor_10 rfl (fun hc => ?_) (fun hc => ?_)
  · have h := h.1 hc
    refine g_aload_n d_T_valueFor_38 0 rfl rfl ?_
    refine g_iconst d_T_valueFor_39 (x := 3) (by decide) ?_
    refine g_putI d_T_valueFor_40 fp_T_33 (by decide) rfl rfl ⟨rfl, rfl⟩ ?_
    refine g_aload_n d_T_valueFor_43 0 rfl rfl ?_
    refine g_iconst d_T_valueFor_44 (x := 0) (by decide) ?_
    refine g_putI d_T_valueFor_45 fp_T_36 (by decide) rfl rfl ⟨rfl, rfl⟩ ?_
    refine g_aload_n d_T_valueFor_48 0 rfl rfl ?_
    refine g_iconst d_T_valueFor_49 (x := 0) (by decide) ?_
    refine g_putI d_T_valueFor_50 fp_T_39 (by decide) rfl rfl ⟨rfl, rfl⟩ ?_
    refine g_aload_n d_T_valueFor_53 0 rfl rfl ?_
    refine g_callVi (av := []) (rest := []) d_T_valueFor_54 Y_T_choice lk_T_87 (by decide) rfl rfl I_T_choice rfl (Nat.le_of_ble_eq_true rfl) rfl h (fun r1 σ1 h => ?_)
    exact g_iret d_T_valueFor_57 rfl h
  · have h := h.2 hc
    refine g_aload_n d_T_valueFor_13 0 rfl rfl ?_
    refine g_getV (x := .ref (v.2.2 3)) d_T_valueFor_14 fl_T_15 (by decide) rfl rfl rfl ?_
    refine g_iload_n d_T_valueFor_17 2 rfl rfl ?_
    refine g_iload_n d_T_valueFor_18 1 rfl rfl ?_
    refine g_aload_n d_T_valueFor_19 0 rfl rfl ?_
    refine g_getV (x := .int (σ.1 1 3)) d_T_valueFor_20 fl_T_23 (by decide) rfl rfl rfl ?_
    refine g_irem d_T_valueFor_23 h.1 ?_
    have h := h.2
    have hi2 := h.1
    have h := h.2
    refine g_iast d_T_valueFor_24 (by decide) rfl hi2 ?_
    refine g_iload_n d_T_valueFor_25 1 rfl rfl ?_
    refine g_aload_n d_T_valueFor_26 0 rfl rfl ?_
    refine g_getV (x := .int (σ.1 1 3)) d_T_valueFor_27 fl_T_23 (by decide) rfl rfl rfl ?_
    refine g_idiv d_T_valueFor_30 h.1 ?_
    have h := h.2
    refine g_istore_n (L' := [(2, .int (x2 / (σ.1 1 3))), (0, .ref (v.2.2 1)), (3, .int x3)]) d_T_valueFor_31 rfl (by decide) rfl ?_
    refine g_iinc (L' := [(3, .int (x3 + (-1))), (2, .int (x2 / (σ.1 1 3))), (0, .ref (v.2.2 1))]) d_T_valueFor_32 2 rfl (by rfl) (by decide) rfl ?_
    refine g_goto (tgt := 9) d_T_valueFor_35 rfl ?_
    exact g_sub [2, 1, 0] rfl h
theorem E_T_valueFor {l : Launch} {v : gs_V} {n : Nat} {post : Int32 → gs_S → Prop} {σ : gs_S} {x1 : Int32} (h : G_T_valueFor_0 l v n post σ x1) : gM l v lyC 42 me_T_valueFor (n + 1) [.ref (v.2.2 1), .int x1] σ (qI v lyC 42 post) := gM_of (by decide +kernel) (Nat.le_of_ble_eq_true rfl) h
