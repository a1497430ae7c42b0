/-! LineRules$Orphan.cell -/
theorem d_O_cell_0 : decode me_O_cell.2.1 0 = .ok (.aload_n 0, 1) := by decide +kernel
theorem d_O_cell_1 : decode me_O_cell.2.1 1 = .ok (.invokevirtual 47, 3) := by decide +kernel
theorem d_O_cell_4 : decode me_O_cell.2.1 4 = .ok (.iload_n 1, 1) := by decide +kernel
theorem d_O_cell_5 : decode me_O_cell.2.1 5 = .ok (.ifCond .lt 11, 3) := by decide +kernel
theorem d_O_cell_8 : decode me_O_cell.2.1 8 = .ok (.iload_n 1, 1) := by decide +kernel
theorem d_O_cell_9 : decode me_O_cell.2.1 9 = .ok (.aload_n 0, 1) := by decide +kernel
theorem d_O_cell_10 : decode me_O_cell.2.1 10 = .ok (.getfield 36, 3) := by decide +kernel
theorem d_O_cell_13 : decode me_O_cell.2.1 13 = .ok (.if_icmp .lt 7, 3) := by decide +kernel
theorem d_O_cell_16 : decode me_O_cell.2.1 16 = .ok (.iconst (-1), 1) := by decide +kernel
theorem d_O_cell_17 : decode me_O_cell.2.1 17 = .ok (.goto 9, 3) := by decide +kernel
theorem d_O_cell_20 : decode me_O_cell.2.1 20 = .ok (.aload_n 0, 1) := by decide +kernel
theorem d_O_cell_21 : decode me_O_cell.2.1 21 = .ok (.getfield 25, 3) := by decide +kernel
theorem d_O_cell_24 : decode me_O_cell.2.1 24 = .ok (.iload_n 1, 1) := by decide +kernel
theorem d_O_cell_25 : decode me_O_cell.2.1 25 = .ok (.iaload, 1) := by decide +kernel
theorem d_O_cell_26 : decode me_O_cell.2.1 26 = .ok (.ireturn, 1) := by decide +kernel
abbrev G_O_cell_0 (l : Launch) (v : gs_V) (n : Nat) (post : Int32 → gs_S → Prop) (σ : gs_S) (x1 : Int32) : Prop := gG l v lyC 42 me_O_cell n (qI v lyC 42 post) 0 [(0, .ref (v.2.2 31)), (1, .int x1)] [] σ
abbrev G_O_cell_16 (l : Launch) (v : gs_V) (n : Nat) (post : Int32 → gs_S → Prop) (σ : gs_S) : Prop := gG l v lyC 42 me_O_cell n (qI v lyC 42 post) 16 [] [] σ
abbrev G_O_cell_26 (l : Launch) (v : gs_V) (n : Nat) (post : Int32 → gs_S → Prop) (σ : gs_S) (s0 : Int32) : Prop := gG l v lyC 42 me_O_cell n (qI v lyC 42 post) 26 [] [.int s0] σ
set_option maxRecDepth 20000 in
set_option maxHeartbeats 1000000 in
theorem T_O_cell_0 {l : Launch} {v : gs_V} {n : Nat} {post : Int32 → gs_S → Prop} {σ : gs_S} {x1 : Int32} (h : gM l v lyC 42 me_O_find n [.ref (v.2.2 31)] σ (qV v lyC 42 (fun σ1 => ((x1 < 0 → G_O_cell_16 l v n post σ1) ∧ (¬ x1 < 0 → ((x1 < (σ1.1 31 9) → vp_in x1 500 ∧ G_O_cell_26 l v n post σ1 (σ1.1 36 x1.toNatClampNeg)) ∧ (¬ x1 < (σ1.1 31 9) → G_O_cell_16 l v n post σ1))))))) : G_O_cell_0 l v n post σ x1 := by
  refine g_aload_n d_O_cell_0 0 rfl rfl ?_
  refine g_callVv (av := []) (rest := []) d_O_cell_1 Y_O_find lk_O_47 (by decide) rfl rfl I_O_find rfl (Nat.le_of_ble_eq_true rfl) rfl h (fun σ1 h => ?_)
  refine g_iload_n d_O_cell_4 1 rfl rfl ?_
  refine g_if_lt (tgt := 16) d_O_cell_5 rfl (fun hc => ?_) (fun hc => ?_)
  · have h := h.1 hc
    exact g_sub [] rfl h
  · have h := h.2 hc
    refine g_iload_n d_O_cell_8 1 rfl rfl ?_
    refine g_aload_n d_O_cell_9 0 rfl rfl ?_
    refine g_getV (x := .int (σ1.1 31 9)) d_O_cell_10 fl_O_36 (by decide) rfl rfl rfl ?_
    refine g_icmp_lt (tgt := 20) d_O_cell_13 rfl (fun hc => ?_) (fun hc => ?_)
    · have h := h.1 hc
      refine g_aload_n d_O_cell_20 0 rfl rfl ?_
      refine g_getV (x := .ref (v.2.2 36)) d_O_cell_21 fl_O_25 (by decide) rfl rfl rfl ?_
      refine g_iload_n d_O_cell_24 1 rfl rfl ?_
      have hi2 := h.1
      have h := h.2
      refine g_iald (x := σ1.1 36 x1.toNatClampNeg) d_O_cell_25 (by decide) rfl hi2 rfl ?_
      exact g_sub [] rfl h
    · have h := h.2 hc
      exact g_sub [] rfl h
set_option maxRecDepth 20000 in
set_option maxHeartbeats 1000000 in
theorem T_O_cell_16 {l : Launch} {v : gs_V} {n : Nat} {post : Int32 → gs_S → Prop} {σ : gs_S} (h : G_O_cell_26 l v n post σ ((-1))) : G_O_cell_16 l v n post σ := by
  refine g_iconst d_O_cell_16 (x := (-1)) (by decide) ?_
  refine g_goto (tgt := 26) d_O_cell_17 rfl ?_
  exact h
set_option maxRecDepth 20000 in
set_option maxHeartbeats 1000000 in
theorem T_O_cell_26 {l : Launch} {v : gs_V} {n : Nat} {post : Int32 → gs_S → Prop} {σ : gs_S} {s0 : Int32} (h : post s0 σ) : G_O_cell_26 l v n post σ s0 := by
  exact g_iret d_O_cell_26 rfl h
theorem E_O_cell {l : Launch} {v : gs_V} {n : Nat} {post : Int32 → gs_S → Prop} {σ : gs_S} {x1 : Int32} (h : G_O_cell_0 l v n post σ x1) : gM l v lyC 42 me_O_cell (n + 1) [.ref (v.2.2 31), .int x1] σ (qI v lyC 42 post) := gM_of (by decide +kernel) (Nat.le_of_ble_eq_true rfl) h
/-! LineRules$Orphan.find -/
theorem d_O_find_0 : decode me_O_find.2.1 0 = .ok (.aload_n 0, 1) := by decide +kernel
theorem d_O_find_1 : decode me_O_find.2.1 1 = .ok (.getfield 32, 3) := by decide +kernel
theorem d_O_find_4 : decode me_O_find.2.1 4 = .ok (.ifCond .eq 4, 3) := by decide +kernel
theorem d_O_find_7 : decode me_O_find.2.1 7 = .ok (.return_, 1) := by decide +kernel
theorem d_O_find_8 : decode me_O_find.2.1 8 = .ok (.aload_n 0, 1) := by decide +kernel
theorem d_O_find_9 : decode me_O_find.2.1 9 = .ok (.iconst 1, 1) := by decide +kernel
theorem d_O_find_10 : decode me_O_find.2.1 10 = .ok (.putfield 32, 3) := by decide +kernel
theorem d_O_find_13 : decode me_O_find.2.1 13 = .ok (.aload_n 0, 1) := by decide +kernel
theorem d_O_find_14 : decode me_O_find.2.1 14 = .ok (.aload_n 0, 1) := by decide +kernel
theorem d_O_find_15 : decode me_O_find.2.1 15 = .ok (.getfield 43, 3) := by decide +kernel
theorem d_O_find_18 : decode me_O_find.2.1 18 = .ok (.invokevirtual 50, 3) := by decide +kernel
theorem d_O_find_21 : decode me_O_find.2.1 21 = .ok (.ifCond .eq 7, 3) := by decide +kernel
theorem d_O_find_24 : decode me_O_find.2.1 24 = .ok (.iconst 0, 1) := by decide +kernel
theorem d_O_find_25 : decode me_O_find.2.1 25 = .ok (.goto 7, 3) := by decide +kernel
theorem d_O_find_28 : decode me_O_find.2.1 28 = .ok (.aload_n 0, 1) := by decide +kernel
theorem d_O_find_29 : decode me_O_find.2.1 29 = .ok (.invokevirtual 56, 3) := by decide +kernel
theorem d_O_find_32 : decode me_O_find.2.1 32 = .ok (.putfield 36, 3) := by decide +kernel
theorem d_O_find_35 : decode me_O_find.2.1 35 = .ok (.return_, 1) := by decide +kernel
abbrev G_O_find_0 (l : Launch) (v : gs_V) (n : Nat) (post : gs_S → Prop) (σ : gs_S) : Prop := gG l v lyC 42 me_O_find n (qV v lyC 42 post) 0 [(0, .ref (v.2.2 31))] [] σ
abbrev G_O_find_32 (l : Launch) (v : gs_V) (n : Nat) (post : gs_S → Prop) (σ : gs_S) (s0 : Int32) : Prop := gG l v lyC 42 me_O_find n (qV v lyC 42 post) 32 [] [.int s0, .ref (v.2.2 31)] σ
set_option maxRecDepth 20000 in
set_option maxHeartbeats 1000000 in
theorem T_O_find_0 {l : Launch} {v : gs_V} {n : Nat} {post : gs_S → Prop} {σ : gs_S} (h : (((σ.1 31 8) = 0 → gM l v lyC 42 me_P_missesNothing n [.ref (v.2.2 14)] (gs_pI σ 31 8 1) (qI v lyC 42 (fun r1 σ1 => ((r1 = 0 → gM l v lyC 42 me_O_search n [.ref (v.2.2 31)] σ1 (qI v lyC 42 (fun r2 σ2 => G_O_find_32 l v n post σ2 r2))) ∧ (¬ r1 = 0 → G_O_find_32 l v n post σ1 0))))) ∧ (¬ (σ.1 31 8) = 0 → post σ))) : G_O_find_0 l v n post σ := by
  refine g_aload_n d_O_find_0 0 rfl rfl ?_
  refine g_getV (x := .int (σ.1 31 8)) d_O_find_1 fl_O_32 (by decide) rfl rfl rfl ?_
  refine g_if_eq (tgt := 8) d_O_find_4 rfl (fun hc => ?_) (fun hc => ?_)
  · have h := h.1 hc
    refine g_aload_n d_O_find_8 0 rfl rfl ?_
    refine g_iconst d_O_find_9 (x := 1) (by decide) ?_
    refine g_putI d_O_find_10 fp_O_32 (by decide) rfl rfl ⟨rfl, rfl⟩ ?_
    refine g_aload_n d_O_find_13 0 rfl rfl ?_
    refine g_aload_n d_O_find_14 0 rfl rfl ?_
    refine g_getV (x := .ref (v.2.2 14)) d_O_find_15 fl_O_43 (by decide) rfl rfl rfl ?_
    refine g_callVi (av := []) (rest := [.ref (v.2.2 31)]) d_O_find_18 Y_P_missesNothing lk_O_50 (by decide) rfl rfl I_P_missesNothing rfl (Nat.le_of_ble_eq_true rfl) rfl h (fun r1 σ1 h => ?_)
    refine g_if_eq (tgt := 28) d_O_find_21 rfl (fun hc => ?_) (fun hc => ?_)
    · have h := h.1 hc
      refine g_aload_n d_O_find_28 0 rfl rfl ?_
      refine g_callVi (av := []) (rest := [.ref (v.2.2 31)]) d_O_find_29 Y_O_search lk_O_56 (by decide) rfl rfl I_O_search rfl (Nat.le_of_ble_eq_true rfl) rfl h (fun r2 σ2 h => ?_)
      exact g_sub [] rfl h
    · have h := h.2 hc
      refine g_iconst d_O_find_24 (x := 0) (by decide) ?_
      refine g_goto (tgt := 32) d_O_find_25 rfl ?_
      exact g_sub [] rfl h
  · have h := h.2 hc
    exact g_vret d_O_find_7 rfl h
set_option maxRecDepth 20000 in
set_option maxHeartbeats 1000000 in
theorem T_O_find_32 {l : Launch} {v : gs_V} {n : Nat} {post : gs_S → Prop} {σ : gs_S} {s0 : Int32} (h : post (gs_pI σ 31 9 s0)) : G_O_find_32 l v n post σ s0 := by
  refine g_putI d_O_find_32 fp_O_36 (by decide) rfl rfl ⟨rfl, rfl⟩ ?_
  exact g_vret d_O_find_35 rfl h
theorem E_O_find {l : Launch} {v : gs_V} {n : Nat} {post : gs_S → Prop} {σ : gs_S} (h : G_O_find_0 l v n post σ) : gM l v lyC 42 me_O_find (n + 1) [.ref (v.2.2 31)] σ (qV v lyC 42 post) := gM_of (by decide +kernel) (Nat.le_of_ble_eq_true rfl) h
/-! LineRules$Orphan.forget -/
theorem d_O_forget_0 : decode me_O_forget.2.1 0 = .ok (.aload_n 0, 1) := by decide +kernel
theorem d_O_forget_1 : decode me_O_forget.2.1 1 = .ok (.iconst 0, 1) := by decide +kernel
theorem d_O_forget_2 : decode me_O_forget.2.1 2 = .ok (.putfield 32, 3) := by decide +kernel
theorem d_O_forget_5 : decode me_O_forget.2.1 5 = .ok (.return_, 1) := by decide +kernel
abbrev G_O_forget_0 (l : Launch) (v : gs_V) (n : Nat) (post : gs_S → Prop) (σ : gs_S) : Prop := gG l v lyC 42 me_O_forget n (qV v lyC 42 post) 0 [(0, .ref (v.2.2 31))] [] σ
set_option maxRecDepth 20000 in
set_option maxHeartbeats 1000000 in
theorem T_O_forget_0 {l : Launch} {v : gs_V} {n : Nat} {post : gs_S → Prop} {σ : gs_S} (h : post (gs_pI σ 31 8 0)) : G_O_forget_0 l v n post σ := by
  refine g_aload_n d_O_forget_0 0 rfl rfl ?_
  refine g_iconst d_O_forget_1 (x := 0) (by decide) ?_
  refine g_putI d_O_forget_2 fp_O_32 (by decide) rfl rfl ⟨rfl, rfl⟩ ?_
  exact g_vret d_O_forget_5 rfl h
theorem E_O_forget {l : Launch} {v : gs_V} {n : Nat} {post : gs_S → Prop} {σ : gs_S} (h : G_O_forget_0 l v n post σ) : gM l v lyC 42 me_O_forget (n + 1) [.ref (v.2.2 31)] σ (qV v lyC 42 post) := gM_of (by decide +kernel) (Nat.le_of_ble_eq_true rfl) h
/-! LineRules$Orphan.length -/
theorem d_O_length_0 : decode me_O_length.2.1 0 = .ok (.aload_n 0, 1) := by decide +kernel
theorem d_O_length_1 : decode me_O_length.2.1 1 = .ok (.invokevirtual 47, 3) := by decide +kernel
theorem d_O_length_4 : decode me_O_length.2.1 4 = .ok (.aload_n 0, 1) := by decide +kernel
theorem d_O_length_5 : decode me_O_length.2.1 5 = .ok (.getfield 36, 3) := by decide +kernel
theorem d_O_length_8 : decode me_O_length.2.1 8 = .ok (.ireturn, 1) := by decide +kernel
abbrev G_O_length_0 (l : Launch) (v : gs_V) (n : Nat) (post : Int32 → gs_S → Prop) (σ : gs_S) : Prop := gG l v lyC 42 me_O_length n (qI v lyC 42 post) 0 [(0, .ref (v.2.2 31))] [] σ
set_option maxRecDepth 20000 in
set_option maxHeartbeats 1000000 in
theorem T_O_length_0 {l : Launch} {v : gs_V} {n : Nat} {post : Int32 → gs_S → Prop} {σ : gs_S} (h : gM l v lyC 42 me_O_find n [.ref (v.2.2 31)] σ (qV v lyC 42 (fun σ1 => post (σ1.1 31 9) σ1))) : G_O_length_0 l v n post σ := by
  refine g_aload_n d_O_length_0 0 rfl rfl ?_
  refine g_callVv (av := []) (rest := []) d_O_length_1 Y_O_find lk_O_47 (by decide) rfl rfl I_O_find rfl (Nat.le_of_ble_eq_true rfl) rfl h (fun σ1 h => ?_)
  refine g_aload_n d_O_length_4 0 rfl rfl ?_
  refine g_getV (x := .int (σ1.1 31 9)) d_O_length_5 fl_O_36 (by decide) rfl rfl rfl ?_
  exact g_iret d_O_length_8 rfl h
theorem E_O_length {l : Launch} {v : gs_V} {n : Nat} {post : Int32 → gs_S → Prop} {σ : gs_S} (h : G_O_length_0 l v n post σ) : gM l v lyC 42 me_O_length (n + 1) [.ref (v.2.2 31)] σ (qI v lyC 42 post) := gM_of (by decide +kernel) (Nat.le_of_ble_eq_true rfl) h
/-! LineRules$Orphan.meet -/
theorem d_O_meet_0 : decode me_O_meet.2.1 0 = .ok (.iconst 0, 1) := by decide +kernel
theorem d_O_meet_1 : decode me_O_meet.2.1 1 = .ok (.istore 5, 2) := by decide +kernel
theorem d_O_meet_3 : decode me_O_meet.2.1 3 = .ok (.iload 5, 2) := by decide +kernel
theorem d_O_meet_5 : decode me_O_meet.2.1 5 = .ok (.aload_n 0, 1) := by decide +kernel
theorem d_O_meet_6 : decode me_O_meet.2.1 6 = .ok (.getfield 28, 3) := by decide +kernel
theorem d_O_meet_9 : decode me_O_meet.2.1 9 = .ok (.if_icmp .ge 22, 3) := by decide +kernel
theorem d_O_meet_12 : decode me_O_meet.2.1 12 = .ok (.aload_n 0, 1) := by decide +kernel
theorem d_O_meet_13 : decode me_O_meet.2.1 13 = .ok (.getfield 9, 3) := by decide +kernel
theorem d_O_meet_16 : decode me_O_meet.2.1 16 = .ok (.iload 5, 2) := by decide +kernel
theorem d_O_meet_18 : decode me_O_meet.2.1 18 = .ok (.laload, 1) := by decide +kernel
theorem d_O_meet_19 : decode me_O_meet.2.1 19 = .ok (.lload_n 1, 1) := by decide +kernel
theorem d_O_meet_20 : decode me_O_meet.2.1 20 = .ok (.lcmp, 1) := by decide +kernel
theorem d_O_meet_21 : decode me_O_meet.2.1 21 = .ok (.ifCond .ne 4, 3) := by decide +kernel
theorem d_O_meet_24 : decode me_O_meet.2.1 24 = .ok (.return_, 1) := by decide +kernel
theorem d_O_meet_25 : decode me_O_meet.2.1 25 = .ok (.iinc 5 1, 3) := by decide +kernel
theorem d_O_meet_28 : decode me_O_meet.2.1 28 = .ok (.goto (-25), 3) := by decide +kernel
theorem d_O_meet_31 : decode me_O_meet.2.1 31 = .ok (.aload_n 0, 1) := by decide +kernel
theorem d_O_meet_32 : decode me_O_meet.2.1 32 = .ok (.getfield 9, 3) := by decide +kernel
theorem d_O_meet_35 : decode me_O_meet.2.1 35 = .ok (.aload_n 0, 1) := by decide +kernel
theorem d_O_meet_36 : decode me_O_meet.2.1 36 = .ok (.getfield 28, 3) := by decide +kernel
theorem d_O_meet_39 : decode me_O_meet.2.1 39 = .ok (.lload_n 1, 1) := by decide +kernel
theorem d_O_meet_40 : decode me_O_meet.2.1 40 = .ok (.lastore, 1) := by decide +kernel
theorem d_O_meet_41 : decode me_O_meet.2.1 41 = .ok (.aload_n 0, 1) := by decide +kernel
theorem d_O_meet_42 : decode me_O_meet.2.1 42 = .ok (.getfield 15, 3) := by decide +kernel
theorem d_O_meet_45 : decode me_O_meet.2.1 45 = .ok (.aload_n 0, 1) := by decide +kernel
theorem d_O_meet_46 : decode me_O_meet.2.1 46 = .ok (.getfield 28, 3) := by decide +kernel
theorem d_O_meet_49 : decode me_O_meet.2.1 49 = .ok (.iload_n 3, 1) := by decide +kernel
theorem d_O_meet_50 : decode me_O_meet.2.1 50 = .ok (.iastore, 1) := by decide +kernel
theorem d_O_meet_51 : decode me_O_meet.2.1 51 = .ok (.aload_n 0, 1) := by decide +kernel
theorem d_O_meet_52 : decode me_O_meet.2.1 52 = .ok (.getfield 19, 3) := by decide +kernel
theorem d_O_meet_55 : decode me_O_meet.2.1 55 = .ok (.aload_n 0, 1) := by decide +kernel
theorem d_O_meet_56 : decode me_O_meet.2.1 56 = .ok (.getfield 28, 3) := by decide +kernel
theorem d_O_meet_59 : decode me_O_meet.2.1 59 = .ok (.iload 4, 2) := by decide +kernel
theorem d_O_meet_61 : decode me_O_meet.2.1 61 = .ok (.iastore, 1) := by decide +kernel
theorem d_O_meet_62 : decode me_O_meet.2.1 62 = .ok (.aload_n 0, 1) := by decide +kernel
theorem d_O_meet_63 : decode me_O_meet.2.1 63 = .ok (.dup, 1) := by decide +kernel
theorem d_O_meet_64 : decode me_O_meet.2.1 64 = .ok (.getfield 28, 3) := by decide +kernel
theorem d_O_meet_67 : decode me_O_meet.2.1 67 = .ok (.iconst 1, 1) := by decide +kernel
theorem d_O_meet_68 : decode me_O_meet.2.1 68 = .ok (.iadd, 1) := by decide +kernel
theorem d_O_meet_69 : decode me_O_meet.2.1 69 = .ok (.putfield 28, 3) := by decide +kernel
theorem d_O_meet_72 : decode me_O_meet.2.1 72 = .ok (.return_, 1) := by decide +kernel
abbrev G_O_meet_0 (l : Launch) (v : gs_V) (n : Nat) (post : gs_S → Prop) (σ : gs_S) (x1 : Int64) (x3 : Int32) (x4 : Int32) : Prop := gG l v lyC 42 me_O_meet n (qV v lyC 42 post) 0 [(0, .ref (v.2.2 31)), (1, .long x1), (3, .int x3), (4, .int x4)] [] σ
abbrev G_O_meet_3 (l : Launch) (v : gs_V) (n : Nat) (post : gs_S → Prop) (σ : gs_S) (x1 : Int64) (x3 : Int32) (x4 : Int32) (x5 : Int32) : Prop := gG l v lyC 42 me_O_meet n (qV v lyC 42 post) 3 [(0, .ref (v.2.2 31)), (1, .long x1), (3, .int x3), (4, .int x4), (5, .int x5)] [] σ
set_option maxRecDepth 20000 in
set_option maxHeartbeats 1000000 in
theorem T_O_meet_0 {l : Launch} {v : gs_V} {n : Nat} {post : gs_S → Prop} {σ : gs_S} {x1 : Int64} {x3 : Int32} {x4 : Int32} (h : G_O_meet_3 l v n post σ x1 x3 x4 0) : G_O_meet_0 l v n post σ x1 x3 x4 := by
  refine g_iconst d_O_meet_0 (x := 0) (by decide) ?_
  refine g_istore (L' := [(5, .int 0), (0, .ref (v.2.2 31)), (1, .long x1), (3, .int x3), (4, .int x4)]) d_O_meet_1 (by decide) rfl ?_
  exact g_sub [1, 2, 3, 4, 0] rfl h
set_option maxRecDepth 20000 in
set_option maxHeartbeats 1000000 in
theorem T_O_meet_3 {l : Launch} {v : gs_V} {n : Nat} {post : gs_S → Prop} {σ : gs_S} {x1 : Int64} {x3 : Int32} {x4 : Int32} {x5 : Int32} (h : (((σ.1 31 7) ≤ x5 → vp_in (σ.1 31 7) 500 ∧ vp_in (σ.1 31 7) 500 ∧ vp_in (σ.1 31 7) 500 ∧ post (gs_pI (gs_pI (gs_pI (gs_pL σ 32 ((σ.1 31 7).toNatClampNeg) x1) 33 ((σ.1 31 7).toNatClampNeg) x3) 34 ((σ.1 31 7).toNatClampNeg) x4) 31 7 ((σ.1 31 7) + 1))) ∧ (¬ (σ.1 31 7) ≤ x5 → vp_in x5 500 ∧ ((¬ (σ.2.1 32 x5.toNatClampNeg) = x1 → G_O_meet_3 l v n post σ x1 x3 x4 (x5 + 1)) ∧ ((σ.2.1 32 x5.toNatClampNeg) = x1 → post σ))))) : G_O_meet_3 l v n post σ x1 x3 x4 x5 := by
  refine g_iload d_O_meet_3 4 rfl ?_
  refine g_aload_n d_O_meet_5 0 rfl rfl ?_
  refine g_getV (x := .int (σ.1 31 7)) d_O_meet_6 fl_O_28 (by decide) rfl rfl rfl ?_
  refine g_icmp_ge (tgt := 31) d_O_meet_9 rfl (fun hc => ?_) (fun hc => ?_)
  · have h := h.1 hc
    refine g_aload_n d_O_meet_31 0 rfl rfl ?_
    refine g_getV (x := .ref (v.2.2 32)) d_O_meet_32 fl_O_9 (by decide) rfl rfl rfl ?_
    refine g_aload_n d_O_meet_35 0 rfl rfl ?_
    refine g_getV (x := .int (σ.1 31 7)) d_O_meet_36 fl_O_28 (by decide) rfl rfl rfl ?_
    refine g_lload_n d_O_meet_39 1 rfl rfl ?_
    have hi1 := h.1
    have h := h.2
    refine g_last d_O_meet_40 (by decide) rfl hi1 ?_
    refine g_aload_n d_O_meet_41 0 rfl rfl ?_
    refine g_getV (x := .ref (v.2.2 33)) d_O_meet_42 fl_O_15 (by decide) rfl rfl rfl ?_
    refine g_aload_n d_O_meet_45 0 rfl rfl ?_
    refine g_getV (x := .int (σ.1 31 7)) d_O_meet_46 fl_O_28 (by decide) rfl rfl rfl ?_
    refine g_iload_n d_O_meet_49 2 rfl rfl ?_
    have hi2 := h.1
    have h := h.2
    refine g_iast d_O_meet_50 (by decide) rfl hi2 ?_
    refine g_aload_n d_O_meet_51 0 rfl rfl ?_
    refine g_getV (x := .ref (v.2.2 34)) d_O_meet_52 fl_O_19 (by decide) rfl rfl rfl ?_
    refine g_aload_n d_O_meet_55 0 rfl rfl ?_
    refine g_getV (x := .int (σ.1 31 7)) d_O_meet_56 fl_O_28 (by decide) rfl rfl rfl ?_
    refine g_iload d_O_meet_59 3 rfl ?_
    have hi3 := h.1
    have h := h.2
    refine g_iast d_O_meet_61 (by decide) rfl hi3 ?_
    refine g_aload_n d_O_meet_62 0 rfl rfl ?_
    refine g_dup d_O_meet_63 rfl ?_
    refine g_getV (x := .int (σ.1 31 7)) d_O_meet_64 fl_O_28 (by decide) rfl rfl rfl ?_
    refine g_iconst d_O_meet_67 (x := 1) (by decide) ?_
    refine g_iadd d_O_meet_68 ?_
    refine g_putI d_O_meet_69 fp_O_28 (by decide) rfl rfl ⟨rfl, rfl⟩ ?_
    exact g_vret d_O_meet_72 rfl h
  · have h := h.2 hc
    refine g_aload_n d_O_meet_12 0 rfl rfl ?_
    refine g_getV (x := .ref (v.2.2 32)) d_O_meet_13 fl_O_9 (by decide) rfl rfl rfl ?_
    refine g_iload d_O_meet_16 4 rfl ?_
    have hi4 := h.1
    have h := h.2
    refine g_lald (x := σ.2.1 32 x5.toNatClampNeg) d_O_meet_18 (by decide) rfl hi4 rfl ?_
    refine g_lload_n d_O_meet_19 1 rfl rfl ?_
    refine g_lcmp_ne (tgt := 25) d_O_meet_20 d_O_meet_21 rfl (fun hc => ?_) (fun hc => ?_)
    · have h := h.1 hc
      refine g_iinc (L' := [(5, .int (x5 + 1)), (0, .ref (v.2.2 31)), (1, .long x1), (3, .int x3), (4, .int x4)]) d_O_meet_25 4 rfl (by rfl) (by decide) rfl ?_
      refine g_goto (tgt := 3) d_O_meet_28 rfl ?_
      exact g_sub [1, 2, 3, 4, 0] rfl h
    · have h := h.2 hc
      exact g_vret d_O_meet_24 rfl h
theorem E_O_meet {l : Launch} {v : gs_V} {n : Nat} {post : gs_S → Prop} {σ : gs_S} {x1 : Int64} {x3 : Int32} {x4 : Int32} (h : G_O_meet_0 l v n post σ x1 x3 x4) : gM l v lyC 42 me_O_meet (n + 1) [.ref (v.2.2 31), .long x1, .int x3, .int x4] σ (qV v lyC 42 post) := gM_of (by decide +kernel) (Nat.le_of_ble_eq_true rfl) h
/-! LineRules$Orphan.search -/
theorem d_O_search_0 : decode me_O_search.2.1 0 = .ok (.aload_n 0, 1) := by decide +kernel
theorem d_O_search_1 : decode me_O_search.2.1 1 = .ok (.iconst 0, 1) := by decide +kernel
theorem d_O_search_2 : decode me_O_search.2.1 2 = .ok (.putfield 28, 3) := by decide +kernel
theorem d_O_search_5 : decode me_O_search.2.1 5 = .ok (.aload_n 0, 1) := by decide +kernel
theorem d_O_search_6 : decode me_O_search.2.1 6 = .ok (.aload_n 0, 1) := by decide +kernel
theorem d_O_search_7 : decode me_O_search.2.1 7 = .ok (.getfield 39, 3) := by decide +kernel
theorem d_O_search_10 : decode me_O_search.2.1 10 = .ok (.invokevirtual 60, 3) := by decide +kernel
theorem d_O_search_13 : decode me_O_search.2.1 13 = .ok (.iconst (-1), 1) := by decide +kernel
theorem d_O_search_14 : decode me_O_search.2.1 14 = .ok (.iconst 0, 1) := by decide +kernel
theorem d_O_search_15 : decode me_O_search.2.1 15 = .ok (.invokevirtual 66, 3) := by decide +kernel
theorem d_O_search_18 : decode me_O_search.2.1 18 = .ok (.iconst 0, 1) := by decide +kernel
theorem d_O_search_19 : decode me_O_search.2.1 19 = .ok (.istore_n 1, 1) := by decide +kernel
theorem d_O_search_20 : decode me_O_search.2.1 20 = .ok (.iload_n 1, 1) := by decide +kernel
theorem d_O_search_21 : decode me_O_search.2.1 21 = .ok (.aload_n 0, 1) := by decide +kernel
theorem d_O_search_22 : decode me_O_search.2.1 22 = .ok (.getfield 28, 3) := by decide +kernel
theorem d_O_search_25 : decode me_O_search.2.1 25 = .ok (.if_icmp .ge 88, 3) := by decide +kernel
theorem d_O_search_28 : decode me_O_search.2.1 28 = .ok (.aload_n 0, 1) := by decide +kernel
theorem d_O_search_29 : decode me_O_search.2.1 29 = .ok (.getfield 28, 3) := by decide +kernel
theorem d_O_search_32 : decode me_O_search.2.1 32 = .ok (.sipush 500, 3) := by decide +kernel
theorem d_O_search_35 : decode me_O_search.2.1 35 = .ok (.if_icmp .ge 78, 3) := by decide +kernel
theorem d_O_search_38 : decode me_O_search.2.1 38 = .ok (.aload_n 0, 1) := by decide +kernel
theorem d_O_search_39 : decode me_O_search.2.1 39 = .ok (.aload_n 0, 1) := by decide +kernel
theorem d_O_search_40 : decode me_O_search.2.1 40 = .ok (.getfield 9, 3) := by decide +kernel
theorem d_O_search_43 : decode me_O_search.2.1 43 = .ok (.iload_n 1, 1) := by decide +kernel
theorem d_O_search_44 : decode me_O_search.2.1 44 = .ok (.laload, 1) := by decide +kernel
theorem d_O_search_45 : decode me_O_search.2.1 45 = .ok (.invokevirtual 70, 3) := by decide +kernel
theorem d_O_search_48 : decode me_O_search.2.1 48 = .ok (.iconst 0, 1) := by decide +kernel
theorem d_O_search_49 : decode me_O_search.2.1 49 = .ok (.istore_n 2, 1) := by decide +kernel
theorem d_O_search_50 : decode me_O_search.2.1 50 = .ok (.iload_n 2, 1) := by decide +kernel
theorem d_O_search_51 : decode me_O_search.2.1 51 = .ok (.aload_n 0, 1) := by decide +kernel
theorem d_O_search_52 : decode me_O_search.2.1 52 = .ok (.getfield 39, 3) := by decide +kernel
theorem d_O_search_55 : decode me_O_search.2.1 55 = .ok (.getfield 74, 3) := by decide +kernel
theorem d_O_search_58 : decode me_O_search.2.1 58 = .ok (.if_icmp .ge 49, 3) := by decide +kernel
theorem d_O_search_61 : decode me_O_search.2.1 61 = .ok (.aload_n 0, 1) := by decide +kernel
theorem d_O_search_62 : decode me_O_search.2.1 62 = .ok (.getfield 28, 3) := by decide +kernel
theorem d_O_search_65 : decode me_O_search.2.1 65 = .ok (.sipush 500, 3) := by decide +kernel
theorem d_O_search_68 : decode me_O_search.2.1 68 = .ok (.if_icmp .ge 39, 3) := by decide +kernel
theorem d_O_search_71 : decode me_O_search.2.1 71 = .ok (.aload_n 0, 1) := by decide +kernel
theorem d_O_search_72 : decode me_O_search.2.1 72 = .ok (.getfield 22, 3) := by decide +kernel
theorem d_O_search_75 : decode me_O_search.2.1 75 = .ok (.iload_n 2, 1) := by decide +kernel
theorem d_O_search_76 : decode me_O_search.2.1 76 = .ok (.laload, 1) := by decide +kernel
theorem d_O_search_77 : decode me_O_search.2.1 77 = .ok (.lconst 0, 1) := by decide +kernel
theorem d_O_search_78 : decode me_O_search.2.1 78 = .ok (.lcmp, 1) := by decide +kernel
theorem d_O_search_79 : decode me_O_search.2.1 79 = .ok (.ifCond .ne 10, 3) := by decide +kernel
theorem d_O_search_82 : decode me_O_search.2.1 82 = .ok (.aload_n 0, 1) := by decide +kernel
theorem d_O_search_83 : decode me_O_search.2.1 83 = .ok (.iload_n 1, 1) := by decide +kernel
theorem d_O_search_84 : decode me_O_search.2.1 84 = .ok (.iload_n 2, 1) := by decide +kernel
theorem d_O_search_85 : decode me_O_search.2.1 85 = .ok (.invokevirtual 77, 3) := by decide +kernel
theorem d_O_search_88 : decode me_O_search.2.1 88 = .ok (.ireturn, 1) := by decide +kernel
theorem d_O_search_89 : decode me_O_search.2.1 89 = .ok (.aload_n 0, 1) := by decide +kernel
theorem d_O_search_90 : decode me_O_search.2.1 90 = .ok (.aload_n 0, 1) := by decide +kernel
theorem d_O_search_91 : decode me_O_search.2.1 91 = .ok (.getfield 22, 3) := by decide +kernel
theorem d_O_search_94 : decode me_O_search.2.1 94 = .ok (.iload_n 2, 1) := by decide +kernel
theorem d_O_search_95 : decode me_O_search.2.1 95 = .ok (.laload, 1) := by decide +kernel
theorem d_O_search_96 : decode me_O_search.2.1 96 = .ok (.iload_n 1, 1) := by decide +kernel
theorem d_O_search_97 : decode me_O_search.2.1 97 = .ok (.iload_n 2, 1) := by decide +kernel
theorem d_O_search_98 : decode me_O_search.2.1 98 = .ok (.invokevirtual 66, 3) := by decide +kernel
theorem d_O_search_101 : decode me_O_search.2.1 101 = .ok (.iinc 2 1, 3) := by decide +kernel
theorem d_O_search_104 : decode me_O_search.2.1 104 = .ok (.goto (-54), 3) := by decide +kernel
theorem d_O_search_107 : decode me_O_search.2.1 107 = .ok (.iinc 1 1, 3) := by decide +kernel
theorem d_O_search_110 : decode me_O_search.2.1 110 = .ok (.goto (-90), 3) := by decide +kernel
theorem d_O_search_113 : decode me_O_search.2.1 113 = .ok (.bipush (-2), 2) := by decide +kernel
theorem d_O_search_115 : decode me_O_search.2.1 115 = .ok (.ireturn, 1) := by decide +kernel
abbrev G_O_search_0 (l : Launch) (v : gs_V) (n : Nat) (post : Int32 → gs_S → Prop) (σ : gs_S) : Prop := gG l v lyC 42 me_O_search n (qI v lyC 42 post) 0 [(0, .ref (v.2.2 31))] [] σ
abbrev G_O_search_20 (l : Launch) (v : gs_V) (n : Nat) (post : Int32 → gs_S → Prop) (σ : gs_S) (x1 : Int32) : Prop := gG l v lyC 42 me_O_search n (qI v lyC 42 post) 20 [(0, .ref (v.2.2 31)), (1, .int x1)] [] σ
abbrev G_O_search_50 (l : Launch) (v : gs_V) (n : Nat) (post : Int32 → gs_S → Prop) (σ : gs_S) (x1 : Int32) (x2 : Int32) : Prop := gG l v lyC 42 me_O_search n (qI v lyC 42 post) 50 [(0, .ref (v.2.2 31)), (1, .int x1), (2, .int x2)] [] σ
abbrev G_O_search_107 (l : Launch) (v : gs_V) (n : Nat) (post : Int32 → gs_S → Prop) (σ : gs_S) (x1 : Int32) : Prop := gG l v lyC 42 me_O_search n (qI v lyC 42 post) 107 [(0, .ref (v.2.2 31)), (1, .int x1)] [] σ
abbrev G_O_search_113 (l : Launch) (v : gs_V) (n : Nat) (post : Int32 → gs_S → Prop) (σ : gs_S) : Prop := gG l v lyC 42 me_O_search n (qI v lyC 42 post) 113 [] [] σ
set_option maxRecDepth 20000 in
set_option maxHeartbeats 1000000 in
theorem T_O_search_0 {l : Launch} {v : gs_V} {n : Nat} {post : Int32 → gs_S → Prop} {σ : gs_S} (h : gM l v lyC 42 me_R_allNodes n [.ref (v.2.2 4)] (gs_pI σ 31 7 0) (qL v lyC 42 (fun r1 σ1 => gM l v lyC 42 me_O_meet n [.ref (v.2.2 31), .long r1, .int ((-1)), .int 0] σ1 (qV v lyC 42 (fun σ2 => G_O_search_20 l v n post σ2 0))))) : G_O_search_0 l v n post σ := by
  refine g_aload_n d_O_search_0 0 rfl rfl ?_
  refine g_iconst d_O_search_1 (x := 0) (by decide) ?_
  refine g_putI d_O_search_2 fp_O_28 (by decide) rfl rfl ⟨rfl, rfl⟩ ?_
  refine g_aload_n d_O_search_5 0 rfl rfl ?_
  refine g_aload_n d_O_search_6 0 rfl rfl ?_
  refine g_getV (x := .ref (v.2.2 4)) d_O_search_7 fl_O_39 (by decide) rfl rfl rfl ?_
  refine g_callVl (av := []) (rest := [.ref (v.2.2 31)]) d_O_search_10 Y_R_allNodes lk_O_60 (by decide) rfl rfl I_R_allNodes rfl (Nat.le_of_ble_eq_true rfl) rfl h (fun r1 σ1 h => ?_)
  refine g_iconst d_O_search_13 (x := (-1)) (by decide) ?_
  refine g_iconst d_O_search_14 (x := 0) (by decide) ?_
  refine g_callVv (av := [.long r1, .int ((-1)), .int 0]) (rest := []) d_O_search_15 Y_O_meet lk_O_66 (by decide) rfl rfl I_O_meet rfl (Nat.le_of_ble_eq_true rfl) rfl h (fun σ2 h => ?_)
  refine g_iconst d_O_search_18 (x := 0) (by decide) ?_
  refine g_istore_n (L' := [(1, .int 0), (0, .ref (v.2.2 31))]) d_O_search_19 rfl (by decide) rfl ?_
  exact g_sub [1, 0] rfl h
set_option maxRecDepth 20000 in
set_option maxHeartbeats 1000000 in
theorem T_O_search_20 {l : Launch} {v : gs_V} {n : Nat} {post : Int32 → gs_S → Prop} {σ : gs_S} {x1 : Int32} (h : (((σ.1 31 7) ≤ x1 → G_O_search_113 l v n post σ) ∧ (¬ (σ.1 31 7) ≤ x1 → ((500 ≤ (σ.1 31 7) → G_O_search_113 l v n post σ) ∧ (¬ 500 ≤ (σ.1 31 7) → vp_in x1 500 ∧ gM l v lyC 42 me_O_spread n [.ref (v.2.2 31), .long (σ.2.1 32 x1.toNatClampNeg)] σ (qV v lyC 42 (fun σ2 => G_O_search_50 l v n post σ2 x1 0))))))) : G_O_search_20 l v n post σ x1 := by
  refine g_iload_n d_O_search_20 1 rfl rfl ?_
  refine g_aload_n d_O_search_21 0 rfl rfl ?_
  refine g_getV (x := .int (σ.1 31 7)) d_O_search_22 fl_O_28 (by decide) rfl rfl rfl ?_
  refine g_icmp_ge (tgt := 113) d_O_search_25 rfl (fun hc => ?_) (fun hc => ?_)
  · have h := h.1 hc
    exact g_sub [] rfl h
  · have h := h.2 hc
    refine g_aload_n d_O_search_28 0 rfl rfl ?_
    refine g_getV (x := .int (σ.1 31 7)) d_O_search_29 fl_O_28 (by decide) rfl rfl rfl ?_
    refine g_sipush d_O_search_32 (x := 500) (by decide) ?_
    refine g_icmp_ge (tgt := 113) d_O_search_35 rfl (fun hc => ?_) (fun hc => ?_)
    · have h := h.1 hc
      exact g_sub [] rfl h
    · have h := h.2 hc
      refine g_aload_n d_O_search_38 0 rfl rfl ?_
      refine g_aload_n d_O_search_39 0 rfl rfl ?_
      refine g_getV (x := .ref (v.2.2 32)) d_O_search_40 fl_O_9 (by decide) rfl rfl rfl ?_
      refine g_iload_n d_O_search_43 1 rfl rfl ?_
      have hi1 := h.1
      have h := h.2
      refine g_lald (x := σ.2.1 32 x1.toNatClampNeg) d_O_search_44 (by decide) rfl hi1 rfl ?_
      refine g_callVv (av := [.long (σ.2.1 32 x1.toNatClampNeg)]) (rest := []) d_O_search_45 Y_O_spread lk_O_70 (by decide) rfl rfl I_O_spread rfl (Nat.le_of_ble_eq_true rfl) rfl h (fun σ2 h => ?_)
      refine g_iconst d_O_search_48 (x := 0) (by decide) ?_
      refine g_istore_n (L' := [(2, .int 0), (0, .ref (v.2.2 31)), (1, .int x1)]) d_O_search_49 rfl (by decide) rfl ?_
      exact g_sub [1, 2, 0] rfl h
set_option maxRecDepth 20000 in
set_option maxHeartbeats 1000000 in
theorem T_O_search_50 {l : Launch} {v : gs_V} {n : Nat} {post : Int32 → gs_S → Prop} {σ : gs_S} {x1 : Int32} {x2 : Int32} (h : (((σ.1 4 6) ≤ x2 → G_O_search_107 l v n post σ x1) ∧ (¬ (σ.1 4 6) ≤ x2 → ((500 ≤ (σ.1 31 7) → G_O_search_107 l v n post σ x1) ∧ (¬ 500 ≤ (σ.1 31 7) → vp_in x2 4 ∧ ((¬ (σ.2.1 35 x2.toNatClampNeg) = 0 → vp_in x2 4 ∧ gM l v lyC 42 me_O_meet n [.ref (v.2.2 31), .long (σ.2.1 35 x2.toNatClampNeg), .int x1, .int x2] σ (qV v lyC 42 (fun σ3 => G_O_search_50 l v n post σ3 x1 (x2 + 1)))) ∧ ((σ.2.1 35 x2.toNatClampNeg) = 0 → gM l v lyC 42 me_O_write n [.ref (v.2.2 31), .int x1, .int x2] σ (qI v lyC 42 (fun r4 σ4 => post r4 σ4))))))))) : G_O_search_50 l v n post σ x1 x2 := by
  refine g_iload_n d_O_search_50 2 rfl rfl ?_
  refine g_aload_n d_O_search_51 0 rfl rfl ?_
  refine g_getV (x := .ref (v.2.2 4)) d_O_search_52 fl_O_39 (by decide) rfl rfl rfl ?_
  refine g_getV (x := .int (σ.1 4 6)) d_O_search_55 fl_O_74 (by decide) rfl rfl rfl ?_
  refine g_icmp_ge (tgt := 107) d_O_search_58 rfl (fun hc => ?_) (fun hc => ?_)
  · have h := h.1 hc
    exact g_sub [0, 1] rfl h
  · have h := h.2 hc
    refine g_aload_n d_O_search_61 0 rfl rfl ?_
    refine g_getV (x := .int (σ.1 31 7)) d_O_search_62 fl_O_28 (by decide) rfl rfl rfl ?_
    refine g_sipush d_O_search_65 (x := 500) (by decide) ?_
    refine g_icmp_ge (tgt := 107) d_O_search_68 rfl (fun hc => ?_) (fun hc => ?_)
    · have h := h.1 hc
      exact g_sub [0, 1] rfl h
    · have h := h.2 hc
      refine g_aload_n d_O_search_71 0 rfl rfl ?_
      refine g_getV (x := .ref (v.2.2 35)) d_O_search_72 fl_O_22 (by decide) rfl rfl rfl ?_
      refine g_iload_n d_O_search_75 2 rfl rfl ?_
      have hi1 := h.1
      have h := h.2
      refine g_lald (x := σ.2.1 35 x2.toNatClampNeg) d_O_search_76 (by decide) rfl hi1 rfl ?_
      refine g_lconst d_O_search_77 (x := 0) (by decide) ?_
      refine g_lcmp_ne (tgt := 89) d_O_search_78 d_O_search_79 rfl (fun hc => ?_) (fun hc => ?_)
      · have h := h.1 hc
        refine g_aload_n d_O_search_89 0 rfl rfl ?_
        refine g_aload_n d_O_search_90 0 rfl rfl ?_
        refine g_getV (x := .ref (v.2.2 35)) d_O_search_91 fl_O_22 (by decide) rfl rfl rfl ?_
        refine g_iload_n d_O_search_94 2 rfl rfl ?_
        have hi2 := h.1
        have h := h.2
        refine g_lald (x := σ.2.1 35 x2.toNatClampNeg) d_O_search_95 (by decide) rfl hi2 rfl ?_
        refine g_iload_n d_O_search_96 1 rfl rfl ?_
        refine g_iload_n d_O_search_97 2 rfl rfl ?_
        refine g_callVv (av := [.long (σ.2.1 35 x2.toNatClampNeg), .int x1, .int x2]) (rest := []) d_O_search_98 Y_O_meet lk_O_66 (by decide) rfl rfl I_O_meet rfl (Nat.le_of_ble_eq_true rfl) rfl h (fun σ3 h => ?_)
        refine g_iinc (L' := [(2, .int (x2 + 1)), (0, .ref (v.2.2 31)), (1, .int x1)]) d_O_search_101 2 rfl (by rfl) (by decide) rfl ?_
        refine g_goto (tgt := 50) d_O_search_104 rfl ?_
        exact g_sub [1, 2, 0] rfl h
      · have h := h.2 hc
        refine g_aload_n d_O_search_82 0 rfl rfl ?_
        refine g_iload_n d_O_search_83 1 rfl rfl ?_
        refine g_iload_n d_O_search_84 2 rfl rfl ?_
        refine g_callVi (av := [.int x1, .int x2]) (rest := []) d_O_search_85 Y_O_write lk_O_77 (by decide) rfl rfl I_O_write rfl (Nat.le_of_ble_eq_true rfl) rfl h (fun r4 σ4 h => ?_)
        exact g_iret d_O_search_88 rfl h
set_option maxRecDepth 20000 in
set_option maxHeartbeats 1000000 in
theorem T_O_search_107 {l : Launch} {v : gs_V} {n : Nat} {post : Int32 → gs_S → Prop} {σ : gs_S} {x1 : Int32} (h : G_O_search_20 l v n post σ (x1 + 1)) : G_O_search_107 l v n post σ x1 := by
  refine g_iinc (L' := [(1, .int (x1 + 1)), (0, .ref (v.2.2 31))]) d_O_search_107 1 rfl (by rfl) (by decide) rfl ?_
  refine g_goto (tgt := 20) d_O_search_110 rfl ?_
  exact g_sub [1, 0] rfl h
set_option maxRecDepth 20000 in
set_option maxHeartbeats 1000000 in
theorem T_O_search_113 {l : Launch} {v : gs_V} {n : Nat} {post : Int32 → gs_S → Prop} {σ : gs_S} (h : post ((-2)) σ) : G_O_search_113 l v n post σ := by
  refine g_bipush d_O_search_113 (x := (-2)) (by decide) ?_
  exact g_iret d_O_search_115 rfl h
theorem E_O_search {l : Launch} {v : gs_V} {n : Nat} {post : Int32 → gs_S → Prop} {σ : gs_S} (h : G_O_search_0 l v n post σ) : gM l v lyC 42 me_O_search (n + 1) [.ref (v.2.2 31)] σ (qI v lyC 42 post) := gM_of (by decide +kernel) (Nat.le_of_ble_eq_true rfl) h
/-! LineRules$Orphan.spread -/
theorem d_O_spread_0 : decode me_O_spread.2.1 0 = .ok (.aload_n 0, 1) := by decide +kernel
theorem d_O_spread_1 : decode me_O_spread.2.1 1 = .ok (.getfield 22, 3) := by decide +kernel
theorem d_O_spread_4 : decode me_O_spread.2.1 4 = .ok (.lconst 0, 1) := by decide +kernel
theorem d_O_spread_5 : decode me_O_spread.2.1 5 = .ok (.invokestatic 81, 3) := by decide +kernel
theorem d_O_spread_8 : decode me_O_spread.2.1 8 = .ok (.iconst 0, 1) := by decide +kernel
theorem d_O_spread_9 : decode me_O_spread.2.1 9 = .ok (.istore_n 3, 1) := by decide +kernel
theorem d_O_spread_10 : decode me_O_spread.2.1 10 = .ok (.iload_n 3, 1) := by decide +kernel
theorem d_O_spread_11 : decode me_O_spread.2.1 11 = .ok (.aload_n 0, 1) := by decide +kernel
theorem d_O_spread_12 : decode me_O_spread.2.1 12 = .ok (.getfield 39, 3) := by decide +kernel
theorem d_O_spread_15 : decode me_O_spread.2.1 15 = .ok (.getfield 87, 3) := by decide +kernel
theorem d_O_spread_18 : decode me_O_spread.2.1 18 = .ok (.if_icmp .ge 60, 3) := by decide +kernel
theorem d_O_spread_21 : decode me_O_spread.2.1 21 = .ok (.lload_n 1, 1) := by decide +kernel
theorem d_O_spread_22 : decode me_O_spread.2.1 22 = .ok (.iload_n 3, 1) := by decide +kernel
theorem d_O_spread_23 : decode me_O_spread.2.1 23 = .ok (.lushr, 1) := by decide +kernel
theorem d_O_spread_24 : decode me_O_spread.2.1 24 = .ok (.lconst 1, 1) := by decide +kernel
theorem d_O_spread_25 : decode me_O_spread.2.1 25 = .ok (.land, 1) := by decide +kernel
theorem d_O_spread_26 : decode me_O_spread.2.1 26 = .ok (.lconst 0, 1) := by decide +kernel
theorem d_O_spread_27 : decode me_O_spread.2.1 27 = .ok (.lcmp, 1) := by decide +kernel
theorem d_O_spread_28 : decode me_O_spread.2.1 28 = .ok (.ifCond .eq 44, 3) := by decide +kernel
theorem d_O_spread_31 : decode me_O_spread.2.1 31 = .ok (.iconst 0, 1) := by decide +kernel
theorem d_O_spread_32 : decode me_O_spread.2.1 32 = .ok (.istore 4, 2) := by decide +kernel
theorem d_O_spread_34 : decode me_O_spread.2.1 34 = .ok (.iload 4, 2) := by decide +kernel
theorem d_O_spread_36 : decode me_O_spread.2.1 36 = .ok (.aload_n 0, 1) := by decide +kernel
theorem d_O_spread_37 : decode me_O_spread.2.1 37 = .ok (.getfield 39, 3) := by decide +kernel
theorem d_O_spread_40 : decode me_O_spread.2.1 40 = .ok (.getfield 74, 3) := by decide +kernel
theorem d_O_spread_43 : decode me_O_spread.2.1 43 = .ok (.if_icmp .ge 29, 3) := by decide +kernel
theorem d_O_spread_46 : decode me_O_spread.2.1 46 = .ok (.aload_n 0, 1) := by decide +kernel
theorem d_O_spread_47 : decode me_O_spread.2.1 47 = .ok (.getfield 22, 3) := by decide +kernel
theorem d_O_spread_50 : decode me_O_spread.2.1 50 = .ok (.iload 4, 2) := by decide +kernel
theorem d_O_spread_52 : decode me_O_spread.2.1 52 = .ok (.dup2, 1) := by decide +kernel
theorem d_O_spread_53 : decode me_O_spread.2.1 53 = .ok (.laload, 1) := by decide +kernel
theorem d_O_spread_54 : decode me_O_spread.2.1 54 = .ok (.aload_n 0, 1) := by decide +kernel
theorem d_O_spread_55 : decode me_O_spread.2.1 55 = .ok (.getfield 39, 3) := by decide +kernel
theorem d_O_spread_58 : decode me_O_spread.2.1 58 = .ok (.iload_n 3, 1) := by decide +kernel
theorem d_O_spread_59 : decode me_O_spread.2.1 59 = .ok (.iload 4, 2) := by decide +kernel
theorem d_O_spread_61 : decode me_O_spread.2.1 61 = .ok (.invokevirtual 90, 3) := by decide +kernel
theorem d_O_spread_64 : decode me_O_spread.2.1 64 = .ok (.lor, 1) := by decide +kernel
theorem d_O_spread_65 : decode me_O_spread.2.1 65 = .ok (.lastore, 1) := by decide +kernel
theorem d_O_spread_66 : decode me_O_spread.2.1 66 = .ok (.iinc 4 1, 3) := by decide +kernel
theorem d_O_spread_69 : decode me_O_spread.2.1 69 = .ok (.goto (-35), 3) := by decide +kernel
theorem d_O_spread_72 : decode me_O_spread.2.1 72 = .ok (.iinc 3 1, 3) := by decide +kernel
theorem d_O_spread_75 : decode me_O_spread.2.1 75 = .ok (.goto (-65), 3) := by decide +kernel
theorem d_O_spread_78 : decode me_O_spread.2.1 78 = .ok (.return_, 1) := by decide +kernel
abbrev G_O_spread_0 (l : Launch) (v : gs_V) (n : Nat) (post : gs_S → Prop) (σ : gs_S) (x1 : Int64) : Prop := gG l v lyC 42 me_O_spread n (qV v lyC 42 post) 0 [(0, .ref (v.2.2 31)), (1, .long x1)] [] σ
abbrev G_O_spread_10 (l : Launch) (v : gs_V) (n : Nat) (post : gs_S → Prop) (σ : gs_S) (x1 : Int64) (x3 : Int32) : Prop := gG l v lyC 42 me_O_spread n (qV v lyC 42 post) 10 [(0, .ref (v.2.2 31)), (1, .long x1), (3, .int x3)] [] σ
abbrev G_O_spread_34 (l : Launch) (v : gs_V) (n : Nat) (post : gs_S → Prop) (σ : gs_S) (x1 : Int64) (x3 : Int32) (x4 : Int32) : Prop := gG l v lyC 42 me_O_spread n (qV v lyC 42 post) 34 [(0, .ref (v.2.2 31)), (1, .long x1), (3, .int x3), (4, .int x4)] [] σ
abbrev G_O_spread_72 (l : Launch) (v : gs_V) (n : Nat) (post : gs_S → Prop) (σ : gs_S) (x1 : Int64) (x3 : Int32) : Prop := gG l v lyC 42 me_O_spread n (qV v lyC 42 post) 72 [(0, .ref (v.2.2 31)), (1, .long x1), (3, .int x3)] [] σ
set_option maxRecDepth 20000 in
set_option maxHeartbeats 1000000 in
theorem T_O_spread_0 {l : Launch} {v : gs_V} {n : Nat} {post : gs_S → Prop} {σ : gs_S} {x1 : Int64} (h : gM l v lyC 42 me_Y_fillJ n [.ref (v.2.2 35), .long 0] σ (qV v lyC 42 (fun σ1 => G_O_spread_10 l v n post σ1 x1 0))) : G_O_spread_0 l v n post σ x1 := by
  refine g_aload_n d_O_spread_0 0 rfl rfl ?_
  refine g_getV (x := .ref (v.2.2 35)) d_O_spread_1 fl_O_22 (by decide) rfl rfl rfl ?_
  refine g_lconst d_O_spread_4 (x := 0) (by decide) ?_
  refine g_callSv (av := [.ref (v.2.2 35), .long 0]) (rest := []) d_O_spread_5 Y_Y_fillJ lk_O_81 I_Y_fillJ rfl (Nat.le_of_ble_eq_true rfl) rfl h (fun σ1 h => ?_)
  refine g_iconst d_O_spread_8 (x := 0) (by decide) ?_
  refine g_istore_n (L' := [(3, .int 0), (0, .ref (v.2.2 31)), (1, .long x1)]) d_O_spread_9 rfl (by decide) rfl ?_
  exact g_sub [1, 2, 0] rfl h
set_option maxRecDepth 20000 in
set_option maxHeartbeats 1000000 in
theorem T_O_spread_10 {l : Launch} {v : gs_V} {n : Nat} {post : gs_S → Prop} {σ : gs_S} {x1 : Int64} {x3 : Int32} (h : (((σ.1 4 9) ≤ x3 → post σ) ∧ (¬ (σ.1 4 9) ≤ x3 → ((((jU x1 x3) &&& 1) = 0 → G_O_spread_72 l v n post σ x1 x3) ∧ (¬ ((jU x1 x3) &&& 1) = 0 → G_O_spread_34 l v n post σ x1 x3 0))))) : G_O_spread_10 l v n post σ x1 x3 := by
  refine g_iload_n d_O_spread_10 2 rfl rfl ?_
  refine g_aload_n d_O_spread_11 0 rfl rfl ?_
  refine g_getV (x := .ref (v.2.2 4)) d_O_spread_12 fl_O_39 (by decide) rfl rfl rfl ?_
  refine g_getV (x := .int (σ.1 4 9)) d_O_spread_15 fl_O_87 (by decide) rfl rfl rfl ?_
  refine g_icmp_ge (tgt := 78) d_O_spread_18 rfl (fun hc => ?_) (fun hc => ?_)
  · have h := h.1 hc
    exact g_vret d_O_spread_78 rfl h
  · have h := h.2 hc
    refine g_lload_n d_O_spread_21 1 rfl rfl ?_
    refine g_iload_n d_O_spread_22 2 rfl rfl ?_
    refine g_lushr d_O_spread_23 ?_
    refine g_lconst d_O_spread_24 (x := 1) (by decide) ?_
    refine g_land d_O_spread_25 ?_
    refine g_lconst d_O_spread_26 (x := 0) (by decide) ?_
    refine g_lcmp_eq (tgt := 72) d_O_spread_27 d_O_spread_28 rfl (fun hc => ?_) (fun hc => ?_)
    · have h := h.1 hc
      exact h
    · have h := h.2 hc
      refine g_iconst d_O_spread_31 (x := 0) (by decide) ?_
      refine g_istore (L' := [(4, .int 0), (0, .ref (v.2.2 31)), (1, .long x1), (3, .int x3)]) d_O_spread_32 (by decide) rfl ?_
      exact g_sub [1, 2, 3, 0] rfl h
set_option maxRecDepth 20000 in
set_option maxHeartbeats 1000000 in
theorem T_O_spread_34 {l : Launch} {v : gs_V} {n : Nat} {post : gs_S → Prop} {σ : gs_S} {x1 : Int64} {x3 : Int32} {x4 : Int32} (h : (((σ.1 4 6) ≤ x4 → G_O_spread_72 l v n post σ x1 x3) ∧ (¬ (σ.1 4 6) ≤ x4 → vp_in x4 4 ∧ gM l v lyC 42 me_R_behind n [.ref (v.2.2 4), .int x3, .int x4] σ (qL v lyC 42 (fun r2 σ2 => vp_in x4 4 ∧ G_O_spread_34 l v n post (gs_pL σ2 35 x4.toNatClampNeg ((σ.2.1 35 x4.toNatClampNeg) ||| r2)) x1 x3 (x4 + 1)))))) : G_O_spread_34 l v n post σ x1 x3 x4 := by
  refine g_iload d_O_spread_34 3 rfl ?_
  refine g_aload_n d_O_spread_36 0 rfl rfl ?_
  refine g_getV (x := .ref (v.2.2 4)) d_O_spread_37 fl_O_39 (by decide) rfl rfl rfl ?_
  refine g_getV (x := .int (σ.1 4 6)) d_O_spread_40 fl_O_74 (by decide) rfl rfl rfl ?_
  refine g_icmp_ge (tgt := 72) d_O_spread_43 rfl (fun hc => ?_) (fun hc => ?_)
  · have h := h.1 hc
    exact g_sub [0, 1, 2] rfl h
  · have h := h.2 hc
    refine g_aload_n d_O_spread_46 0 rfl rfl ?_
    refine g_getV (x := .ref (v.2.2 35)) d_O_spread_47 fl_O_22 (by decide) rfl rfl rfl ?_
    refine g_iload d_O_spread_50 3 rfl ?_
    refine g_dup2_11 d_O_spread_52 rfl rfl ?_
    have hi1 := h.1
    have h := h.2
    refine g_lald (x := σ.2.1 35 x4.toNatClampNeg) d_O_spread_53 (by decide) rfl hi1 rfl ?_
    refine g_aload_n d_O_spread_54 0 rfl rfl ?_
    refine g_getV (x := .ref (v.2.2 4)) d_O_spread_55 fl_O_39 (by decide) rfl rfl rfl ?_
    refine g_iload_n d_O_spread_58 2 rfl rfl ?_
    refine g_iload d_O_spread_59 3 rfl ?_
    refine g_callVl (av := [.int x3, .int x4]) (rest := [.long (σ.2.1 35 x4.toNatClampNeg), .int x4, .ref (v.2.2 35)]) d_O_spread_61 Y_R_behind lk_O_90 (by decide) rfl rfl I_R_behind rfl (Nat.le_of_ble_eq_true rfl) rfl h (fun r2 σ2 h => ?_)
    refine g_lor d_O_spread_64 ?_
    have hi3 := h.1
    have h := h.2
    refine g_last d_O_spread_65 (by decide) rfl hi3 ?_
    refine g_iinc (L' := [(4, .int (x4 + 1)), (0, .ref (v.2.2 31)), (1, .long x1), (3, .int x3)]) d_O_spread_66 3 rfl (by rfl) (by decide) rfl ?_
    refine g_goto (tgt := 34) d_O_spread_69 rfl ?_
    exact g_sub [1, 2, 3, 0] rfl h
set_option maxRecDepth 20000 in
set_option maxHeartbeats 1000000 in
theorem T_O_spread_72 {l : Launch} {v : gs_V} {n : Nat} {post : gs_S → Prop} {σ : gs_S} {x1 : Int64} {x3 : Int32} (h : G_O_spread_10 l v n post σ x1 (x3 + 1)) : G_O_spread_72 l v n post σ x1 x3 := by
  refine g_iinc (L' := [(3, .int (x3 + 1)), (0, .ref (v.2.2 31)), (1, .long x1)]) d_O_spread_72 2 rfl (by rfl) (by decide) rfl ?_
  refine g_goto (tgt := 10) d_O_spread_75 rfl ?_
  exact g_sub [1, 2, 0] rfl h
theorem E_O_spread {l : Launch} {v : gs_V} {n : Nat} {post : gs_S → Prop} {σ : gs_S} {x1 : Int64} (h : G_O_spread_0 l v n post σ x1) : gM l v lyC 42 me_O_spread (n + 1) [.ref (v.2.2 31), .long x1] σ (qV v lyC 42 post) := gM_of (by decide +kernel) (Nat.le_of_ble_eq_true rfl) h
/-! LineRules$Orphan.write -/
theorem d_O_write_0 : decode me_O_write.2.1 0 = .ok (.iconst 1, 1) := by decide +kernel
theorem d_O_write_1 : decode me_O_write.2.1 1 = .ok (.istore_n 3, 1) := by decide +kernel
theorem d_O_write_2 : decode me_O_write.2.1 2 = .ok (.iload_n 1, 1) := by decide +kernel
theorem d_O_write_3 : decode me_O_write.2.1 3 = .ok (.istore 4, 2) := by decide +kernel
theorem d_O_write_5 : decode me_O_write.2.1 5 = .ok (.iload 4, 2) := by decide +kernel
theorem d_O_write_7 : decode me_O_write.2.1 7 = .ok (.ifCond .le 25, 3) := by decide +kernel
theorem d_O_write_10 : decode me_O_write.2.1 10 = .ok (.iload_n 3, 1) := by decide +kernel
theorem d_O_write_11 : decode me_O_write.2.1 11 = .ok (.sipush 500, 3) := by decide +kernel
theorem d_O_write_14 : decode me_O_write.2.1 14 = .ok (.if_icmp .ge 18, 3) := by decide +kernel
theorem d_O_write_17 : decode me_O_write.2.1 17 = .ok (.iinc 3 1, 3) := by decide +kernel
theorem d_O_write_20 : decode me_O_write.2.1 20 = .ok (.aload_n 0, 1) := by decide +kernel
theorem d_O_write_21 : decode me_O_write.2.1 21 = .ok (.getfield 15, 3) := by decide +kernel
theorem d_O_write_24 : decode me_O_write.2.1 24 = .ok (.iload 4, 2) := by decide +kernel
theorem d_O_write_26 : decode me_O_write.2.1 26 = .ok (.iaload, 1) := by decide +kernel
theorem d_O_write_27 : decode me_O_write.2.1 27 = .ok (.istore 4, 2) := by decide +kernel
theorem d_O_write_29 : decode me_O_write.2.1 29 = .ok (.goto (-24), 3) := by decide +kernel
theorem d_O_write_32 : decode me_O_write.2.1 32 = .ok (.aload_n 0, 1) := by decide +kernel
theorem d_O_write_33 : decode me_O_write.2.1 33 = .ok (.getfield 25, 3) := by decide +kernel
theorem d_O_write_36 : decode me_O_write.2.1 36 = .ok (.iload_n 3, 1) := by decide +kernel
theorem d_O_write_37 : decode me_O_write.2.1 37 = .ok (.iconst 1, 1) := by decide +kernel
theorem d_O_write_38 : decode me_O_write.2.1 38 = .ok (.isub, 1) := by decide +kernel
theorem d_O_write_39 : decode me_O_write.2.1 39 = .ok (.iload_n 2, 1) := by decide +kernel
theorem d_O_write_40 : decode me_O_write.2.1 40 = .ok (.iastore, 1) := by decide +kernel
theorem d_O_write_41 : decode me_O_write.2.1 41 = .ok (.iload_n 1, 1) := by decide +kernel
theorem d_O_write_42 : decode me_O_write.2.1 42 = .ok (.istore 4, 2) := by decide +kernel
theorem d_O_write_44 : decode me_O_write.2.1 44 = .ok (.iload_n 3, 1) := by decide +kernel
theorem d_O_write_45 : decode me_O_write.2.1 45 = .ok (.iconst 2, 1) := by decide +kernel
theorem d_O_write_46 : decode me_O_write.2.1 46 = .ok (.isub, 1) := by decide +kernel
theorem d_O_write_47 : decode me_O_write.2.1 47 = .ok (.istore 5, 2) := by decide +kernel
theorem d_O_write_49 : decode me_O_write.2.1 49 = .ok (.iload 5, 2) := by decide +kernel
theorem d_O_write_51 : decode me_O_write.2.1 51 = .ok (.ifCond .lt 32, 3) := by decide +kernel
theorem d_O_write_54 : decode me_O_write.2.1 54 = .ok (.aload_n 0, 1) := by decide +kernel
theorem d_O_write_55 : decode me_O_write.2.1 55 = .ok (.getfield 25, 3) := by decide +kernel
theorem d_O_write_58 : decode me_O_write.2.1 58 = .ok (.iload 5, 2) := by decide +kernel
theorem d_O_write_60 : decode me_O_write.2.1 60 = .ok (.aload_n 0, 1) := by decide +kernel
theorem d_O_write_61 : decode me_O_write.2.1 61 = .ok (.getfield 19, 3) := by decide +kernel
theorem d_O_write_64 : decode me_O_write.2.1 64 = .ok (.iload 4, 2) := by decide +kernel
theorem d_O_write_66 : decode me_O_write.2.1 66 = .ok (.iaload, 1) := by decide +kernel
theorem d_O_write_67 : decode me_O_write.2.1 67 = .ok (.iastore, 1) := by decide +kernel
theorem d_O_write_68 : decode me_O_write.2.1 68 = .ok (.aload_n 0, 1) := by decide +kernel
theorem d_O_write_69 : decode me_O_write.2.1 69 = .ok (.getfield 15, 3) := by decide +kernel
theorem d_O_write_72 : decode me_O_write.2.1 72 = .ok (.iload 4, 2) := by decide +kernel
theorem d_O_write_74 : decode me_O_write.2.1 74 = .ok (.iaload, 1) := by decide +kernel
theorem d_O_write_75 : decode me_O_write.2.1 75 = .ok (.istore 4, 2) := by decide +kernel
theorem d_O_write_77 : decode me_O_write.2.1 77 = .ok (.iinc 5 (-1), 3) := by decide +kernel
theorem d_O_write_80 : decode me_O_write.2.1 80 = .ok (.goto (-31), 3) := by decide +kernel
theorem d_O_write_83 : decode me_O_write.2.1 83 = .ok (.iload_n 3, 1) := by decide +kernel
theorem d_O_write_84 : decode me_O_write.2.1 84 = .ok (.ireturn, 1) := by decide +kernel
abbrev G_O_write_0 (l : Launch) (v : gs_V) (n : Nat) (post : Int32 → gs_S → Prop) (σ : gs_S) (x1 : Int32) (x2 : Int32) : Prop := gG l v lyC 42 me_O_write n (qI v lyC 42 post) 0 [(0, .ref (v.2.2 31)), (1, .int x1), (2, .int x2)] [] σ
abbrev G_O_write_5 (l : Launch) (v : gs_V) (n : Nat) (post : Int32 → gs_S → Prop) (σ : gs_S) (x1 : Int32) (x2 : Int32) (x3 : Int32) (x4 : Int32) : Prop := gG l v lyC 42 me_O_write n (qI v lyC 42 post) 5 [(0, .ref (v.2.2 31)), (1, .int x1), (2, .int x2), (3, .int x3), (4, .int x4)] [] σ
abbrev G_O_write_32 (l : Launch) (v : gs_V) (n : Nat) (post : Int32 → gs_S → Prop) (σ : gs_S) (x1 : Int32) (x2 : Int32) (x3 : Int32) : Prop := gG l v lyC 42 me_O_write n (qI v lyC 42 post) 32 [(0, .ref (v.2.2 31)), (1, .int x1), (2, .int x2), (3, .int x3)] [] σ
abbrev G_O_write_49 (l : Launch) (v : gs_V) (n : Nat) (post : Int32 → gs_S → Prop) (σ : gs_S) (x3 : Int32) (x4 : Int32) (x5 : Int32) : Prop := gG l v lyC 42 me_O_write n (qI v lyC 42 post) 49 [(0, .ref (v.2.2 31)), (3, .int x3), (4, .int x4), (5, .int x5)] [] σ
set_option maxRecDepth 20000 in
set_option maxHeartbeats 1000000 in
theorem T_O_write_0 {l : Launch} {v : gs_V} {n : Nat} {post : Int32 → gs_S → Prop} {σ : gs_S} {x1 : Int32} {x2 : Int32} (h : G_O_write_5 l v n post σ x1 x2 1 x1) : G_O_write_0 l v n post σ x1 x2 := by
  refine g_iconst d_O_write_0 (x := 1) (by decide) ?_
  refine g_istore_n (L' := [(3, .int 1), (0, .ref (v.2.2 31)), (1, .int x1), (2, .int x2)]) d_O_write_1 rfl (by decide) rfl ?_
  refine g_iload_n d_O_write_2 2 rfl rfl ?_
  refine g_istore (L' := [(4, .int x1), (3, .int 1), (0, .ref (v.2.2 31)), (1, .int x1), (2, .int x2)]) d_O_write_3 (by decide) rfl ?_
  exact g_sub [2, 3, 4, 1, 0] rfl h
set_option maxRecDepth 20000 in
set_option maxHeartbeats 1000000 in
theorem T_O_write_5 {l : Launch} {v : gs_V} {n : Nat} {post : Int32 → gs_S → Prop} {σ : gs_S} {x1 : Int32} {x2 : Int32} {x3 : Int32} {x4 : Int32} (h : ((x4 ≤ 0 → G_O_write_32 l v n post σ x1 x2 x3) ∧ (¬ x4 ≤ 0 → ((500 ≤ x3 → G_O_write_32 l v n post σ x1 x2 x3) ∧ (¬ 500 ≤ x3 → vp_in x4 500 ∧ G_O_write_5 l v n post σ x1 x2 (x3 + 1) (σ.1 33 x4.toNatClampNeg)))))) : G_O_write_5 l v n post σ x1 x2 x3 x4 := by
  refine g_iload d_O_write_5 4 rfl ?_
  refine g_if_le (tgt := 32) d_O_write_7 rfl (fun hc => ?_) (fun hc => ?_)
  · have h := h.1 hc
    exact g_sub [0, 1, 2, 3] rfl h
  · have h := h.2 hc
    refine g_iload_n d_O_write_10 3 rfl rfl ?_
    refine g_sipush d_O_write_11 (x := 500) (by decide) ?_
    refine g_icmp_ge (tgt := 32) d_O_write_14 rfl (fun hc => ?_) (fun hc => ?_)
    · have h := h.1 hc
      exact g_sub [0, 1, 2, 3] rfl h
    · have h := h.2 hc
      refine g_iinc (L' := [(3, .int (x3 + 1)), (0, .ref (v.2.2 31)), (1, .int x1), (2, .int x2), (4, .int x4)]) d_O_write_17 3 rfl (by rfl) (by decide) rfl ?_
      refine g_aload_n d_O_write_20 1 rfl rfl ?_
      refine g_getV (x := .ref (v.2.2 33)) d_O_write_21 fl_O_15 (by decide) rfl rfl rfl ?_
      refine g_iload d_O_write_24 4 rfl ?_
      have hi1 := h.1
      have h := h.2
      refine g_iald (x := σ.1 33 x4.toNatClampNeg) d_O_write_26 (by decide) rfl hi1 rfl ?_
      refine g_istore (L' := [(4, .int (σ.1 33 x4.toNatClampNeg)), (3, .int (x3 + 1)), (0, .ref (v.2.2 31)), (1, .int x1), (2, .int x2)]) d_O_write_27 (by decide) rfl ?_
      refine g_goto (tgt := 5) d_O_write_29 rfl ?_
      exact g_sub [2, 3, 4, 1, 0] rfl h
set_option maxRecDepth 20000 in
set_option maxHeartbeats 1000000 in
theorem T_O_write_32 {l : Launch} {v : gs_V} {n : Nat} {post : Int32 → gs_S → Prop} {σ : gs_S} {x1 : Int32} {x2 : Int32} {x3 : Int32} (h : vp_in (x3 - 1) 500 ∧ G_O_write_49 l v n post (gs_pI σ 36 ((x3 - 1).toNatClampNeg) x2) x3 x1 (x3 - 2)) : G_O_write_32 l v n post σ x1 x2 x3 := by
  refine g_aload_n d_O_write_32 0 rfl rfl ?_
  refine g_getV (x := .ref (v.2.2 36)) d_O_write_33 fl_O_25 (by decide) rfl rfl rfl ?_
  refine g_iload_n d_O_write_36 3 rfl rfl ?_
  refine g_iconst d_O_write_37 (x := 1) (by decide) ?_
  refine g_isub d_O_write_38 ?_
  refine g_iload_n d_O_write_39 2 rfl rfl ?_
  have hi1 := h.1
  have h := h.2
  refine g_iast d_O_write_40 (by decide) rfl hi1 ?_
  refine g_iload_n d_O_write_41 1 rfl rfl ?_
  refine g_istore (L' := [(4, .int x1), (0, .ref (v.2.2 31)), (1, .int x1), (2, .int x2), (3, .int x3)]) d_O_write_42 (by decide) rfl ?_
  refine g_iload_n d_O_write_44 4 rfl rfl ?_
  refine g_iconst d_O_write_45 (x := 2) (by decide) ?_
  refine g_isub d_O_write_46 ?_
  refine g_istore (L' := [(5, .int (x3 - 2)), (4, .int x1), (0, .ref (v.2.2 31)), (1, .int x1), (2, .int x2), (3, .int x3)]) d_O_write_47 (by decide) rfl ?_
  exact g_sub [2, 5, 1, 0] rfl h
set_option maxRecDepth 20000 in
set_option maxHeartbeats 1000000 in
theorem T_O_write_49 {l : Launch} {v : gs_V} {n : Nat} {post : Int32 → gs_S → Prop} {σ : gs_S} {x3 : Int32} {x4 : Int32} {x5 : Int32} (h : ((x5 < 0 → post x3 σ) ∧ (¬ x5 < 0 → vp_in x4 500 ∧ vp_in x5 500 ∧ vp_in x4 500 ∧ G_O_write_49 l v n post (gs_pI σ 36 x5.toNatClampNeg (σ.1 34 x4.toNatClampNeg)) x3 (σ.1 33 x4.toNatClampNeg) (x5 + (-1))))) : G_O_write_49 l v n post σ x3 x4 x5 := by
  refine g_iload d_O_write_49 3 rfl ?_
  refine g_if_lt (tgt := 83) d_O_write_51 rfl (fun hc => ?_) (fun hc => ?_)
  · have h := h.1 hc
    refine g_iload_n d_O_write_83 1 rfl rfl ?_
    exact g_iret d_O_write_84 rfl h
  · have h := h.2 hc
    refine g_aload_n d_O_write_54 0 rfl rfl ?_
    refine g_getV (x := .ref (v.2.2 36)) d_O_write_55 fl_O_25 (by decide) rfl rfl rfl ?_
    refine g_iload d_O_write_58 3 rfl ?_
    refine g_aload_n d_O_write_60 0 rfl rfl ?_
    refine g_getV (x := .ref (v.2.2 34)) d_O_write_61 fl_O_19 (by decide) rfl rfl rfl ?_
    refine g_iload d_O_write_64 2 rfl ?_
    have hi1 := h.1
    have h := h.2
    refine g_iald (x := σ.1 34 x4.toNatClampNeg) d_O_write_66 (by decide) rfl hi1 rfl ?_
    have hi2 := h.1
    have h := h.2
    refine g_iast d_O_write_67 (by decide) rfl hi2 ?_
    refine g_aload_n d_O_write_68 0 rfl rfl ?_
    refine g_getV (x := .ref (v.2.2 33)) d_O_write_69 fl_O_15 (by decide) rfl rfl rfl ?_
    refine g_iload d_O_write_72 2 rfl ?_
    have hi3 := h.1
    have h := h.2
    refine g_iald (x := σ.1 33 x4.toNatClampNeg) d_O_write_74 (by decide) rfl hi3 rfl ?_
    refine g_istore (L' := [(4, .int (σ.1 33 x4.toNatClampNeg)), (0, .ref (v.2.2 31)), (3, .int x3), (5, .int x5)]) d_O_write_75 (by decide) rfl ?_
    refine g_iinc (L' := [(5, .int (x5 + (-1))), (4, .int (σ.1 33 x4.toNatClampNeg)), (0, .ref (v.2.2 31)), (3, .int x3)]) d_O_write_77 3 rfl (by rfl) (by decide) rfl ?_
    refine g_goto (tgt := 49) d_O_write_80 rfl ?_
    exact g_sub [2, 3, 1, 0] rfl h
theorem E_O_write {l : Launch} {v : gs_V} {n : Nat} {post : Int32 → gs_S → Prop} {σ : gs_S} {x1 : Int32} {x2 : Int32} (h : G_O_write_0 l v n post σ x1 x2) : gM l v lyC 42 me_O_write (n + 1) [.ref (v.2.2 31), .int x1, .int x2] σ (qI v lyC 42 post) := gM_of (by decide +kernel) (Nat.le_of_ble_eq_true rfl) h
/-! LineRules$Past.cell -/
theorem d_H_cell_0 : decode me_H_cell.2.1 0 = .ok (.aload_n 0, 1) := by decide +kernel
theorem d_H_cell_1 : decode me_H_cell.2.1 1 = .ok (.invokevirtual 47, 3) := by decide +kernel
theorem d_H_cell_4 : decode me_H_cell.2.1 4 = .ok (.aload_n 0, 1) := by decide +kernel
theorem d_H_cell_5 : decode me_H_cell.2.1 5 = .ok (.getfield 29, 3) := by decide +kernel
theorem d_H_cell_8 : decode me_H_cell.2.1 8 = .ok (.ifCond .eq 23, 3) := by decide +kernel
theorem d_H_cell_11 : decode me_H_cell.2.1 11 = .ok (.aload_n 0, 1) := by decide +kernel
theorem d_H_cell_12 : decode me_H_cell.2.1 12 = .ok (.getfield 43, 3) := by decide +kernel
theorem d_H_cell_15 : decode me_H_cell.2.1 15 = .ok (.iload_n 1, 1) := by decide +kernel
theorem d_H_cell_16 : decode me_H_cell.2.1 16 = .ok (.invokevirtual 50, 3) := by decide +kernel
theorem d_H_cell_19 : decode me_H_cell.2.1 19 = .ok (.ifCond .eq 12, 3) := by decide +kernel
theorem d_H_cell_22 : decode me_H_cell.2.1 22 = .ok (.aload_n 0, 1) := by decide +kernel
theorem d_H_cell_23 : decode me_H_cell.2.1 23 = .ok (.getfield 15, 3) := by decide +kernel
theorem d_H_cell_26 : decode me_H_cell.2.1 26 = .ok (.iload_n 1, 1) := by decide +kernel
theorem d_H_cell_27 : decode me_H_cell.2.1 27 = .ok (.iaload, 1) := by decide +kernel
theorem d_H_cell_28 : decode me_H_cell.2.1 28 = .ok (.goto 4, 3) := by decide +kernel
theorem d_H_cell_31 : decode me_H_cell.2.1 31 = .ok (.iconst (-1), 1) := by decide +kernel
theorem d_H_cell_32 : decode me_H_cell.2.1 32 = .ok (.ireturn, 1) := by decide +kernel
abbrev G_H_cell_0 (l : Launch) (v : gs_V) (n : Nat) (post : Int32 → gs_S → Prop) (σ : gs_S) (x1 : Int32) : Prop := gG l v lyC 42 me_H_cell n (qI v lyC 42 post) 0 [(0, .ref (v.2.2 37)), (1, .int x1)] [] σ
abbrev G_H_cell_31 (l : Launch) (v : gs_V) (n : Nat) (post : Int32 → gs_S → Prop) (σ : gs_S) : Prop := gG l v lyC 42 me_H_cell n (qI v lyC 42 post) 31 [] [] σ
abbrev G_H_cell_32 (l : Launch) (v : gs_V) (n : Nat) (post : Int32 → gs_S → Prop) (σ : gs_S) (s0 : Int32) : Prop := gG l v lyC 42 me_H_cell n (qI v lyC 42 post) 32 [] [.int s0] σ
set_option maxRecDepth 20000 in
set_option maxHeartbeats 1000000 in
theorem T_H_cell_0 {l : Launch} {v : gs_V} {n : Nat} {post : Int32 → gs_S → Prop} {σ : gs_S} {x1 : Int32} (h : gM l v lyC 42 me_H_find n [.ref (v.2.2 37)] σ (qV v lyC 42 (fun σ1 => (((σ1.1 37 7) = 0 → G_H_cell_31 l v n post σ1) ∧ (¬ (σ1.1 37 7) = 0 → gM l v lyC 42 me_C_has n [.ref (v.2.2 10), .int x1] σ1 (qI v lyC 42 (fun r2 σ2 => ((r2 = 0 → G_H_cell_31 l v n post σ2) ∧ (¬ r2 = 0 → vp_in x1 64 ∧ G_H_cell_32 l v n post σ2 (σ2.1 39 x1.toNatClampNeg)))))))))) : G_H_cell_0 l v n post σ x1 := by
  refine g_aload_n d_H_cell_0 0 rfl rfl ?_
  refine g_callVv (av := []) (rest := []) d_H_cell_1 Y_H_find lk_H_47 (by decide) rfl rfl I_H_find rfl (Nat.le_of_ble_eq_true rfl) rfl h (fun σ1 h => ?_)
  refine g_aload_n d_H_cell_4 0 rfl rfl ?_
  refine g_getV (x := .int (σ1.1 37 7)) d_H_cell_5 fl_H_29 (by decide) rfl rfl rfl ?_
  refine g_if_eq (tgt := 31) d_H_cell_8 rfl (fun hc => ?_) (fun hc => ?_)
  · have h := h.1 hc
    exact g_sub [] rfl h
  · have h := h.2 hc
    refine g_aload_n d_H_cell_11 0 rfl rfl ?_
    refine g_getV (x := .ref (v.2.2 10)) d_H_cell_12 fl_H_43 (by decide) rfl rfl rfl ?_
    refine g_iload_n d_H_cell_15 1 rfl rfl ?_
    refine g_callVi (av := [.int x1]) (rest := []) d_H_cell_16 Y_C_has lk_H_50 (by decide) rfl rfl I_C_has rfl (Nat.le_of_ble_eq_true rfl) rfl h (fun r2 σ2 h => ?_)
    refine g_if_eq (tgt := 31) d_H_cell_19 rfl (fun hc => ?_) (fun hc => ?_)
    · have h := h.1 hc
      exact g_sub [] rfl h
    · have h := h.2 hc
      refine g_aload_n d_H_cell_22 0 rfl rfl ?_
      refine g_getV (x := .ref (v.2.2 39)) d_H_cell_23 fl_H_15 (by decide) rfl rfl rfl ?_
      refine g_iload_n d_H_cell_26 1 rfl rfl ?_
      have hi3 := h.1
      have h := h.2
      refine g_iald (x := σ2.1 39 x1.toNatClampNeg) d_H_cell_27 (by decide) rfl hi3 rfl ?_
      refine g_goto (tgt := 32) d_H_cell_28 rfl ?_
      exact g_sub [] rfl h
set_option maxRecDepth 20000 in
set_option maxHeartbeats 1000000 in
theorem T_H_cell_31 {l : Launch} {v : gs_V} {n : Nat} {post : Int32 → gs_S → Prop} {σ : gs_S} (h : G_H_cell_32 l v n post σ ((-1))) : G_H_cell_31 l v n post σ := by
  refine g_iconst d_H_cell_31 (x := (-1)) (by decide) ?_
  exact h
set_option maxRecDepth 20000 in
set_option maxHeartbeats 1000000 in
theorem T_H_cell_32 {l : Launch} {v : gs_V} {n : Nat} {post : Int32 → gs_S → Prop} {σ : gs_S} {s0 : Int32} (h : post s0 σ) : G_H_cell_32 l v n post σ s0 := by
  exact g_iret d_H_cell_32 rfl h
theorem E_H_cell {l : Launch} {v : gs_V} {n : Nat} {post : Int32 → gs_S → Prop} {σ : gs_S} {x1 : Int32} (h : G_H_cell_0 l v n post σ x1) : gM l v lyC 42 me_H_cell (n + 1) [.ref (v.2.2 37), .int x1] σ (qI v lyC 42 post) := gM_of (by decide +kernel) (Nat.le_of_ble_eq_true rfl) h
/-! LineRules$Past.comesBackTo -/
theorem d_H_comesBackTo_0 : decode me_H_comesBackTo.2.1 0 = .ok (.aload_n 0, 1) := by decide +kernel
theorem d_H_comesBackTo_1 : decode me_H_comesBackTo.2.1 1 = .ok (.getfield 9, 3) := by decide +kernel
theorem d_H_comesBackTo_4 : decode me_H_comesBackTo.2.1 4 = .ok (.aload_n 0, 1) := by decide +kernel
theorem d_H_comesBackTo_5 : decode me_H_comesBackTo.2.1 5 = .ok (.getfield 43, 3) := by decide +kernel
theorem d_H_comesBackTo_8 : decode me_H_comesBackTo.2.1 8 = .ok (.getfield 80, 3) := by decide +kernel
theorem d_H_comesBackTo_11 : decode me_H_comesBackTo.2.1 11 = .ok (.lconst 1, 1) := by decide +kernel
theorem d_H_comesBackTo_12 : decode me_H_comesBackTo.2.1 12 = .ok (.iload_n 1, 1) := by decide +kernel
theorem d_H_comesBackTo_13 : decode me_H_comesBackTo.2.1 13 = .ok (.lshl, 1) := by decide +kernel
theorem d_H_comesBackTo_14 : decode me_H_comesBackTo.2.1 14 = .ok (.lastore, 1) := by decide +kernel
theorem d_H_comesBackTo_15 : decode me_H_comesBackTo.2.1 15 = .ok (.aload_n 0, 1) := by decide +kernel
theorem d_H_comesBackTo_16 : decode me_H_comesBackTo.2.1 16 = .ok (.getfield 43, 3) := by decide +kernel
theorem d_H_comesBackTo_19 : decode me_H_comesBackTo.2.1 19 = .ok (.getfield 80, 3) := by decide +kernel
theorem d_H_comesBackTo_22 : decode me_H_comesBackTo.2.1 22 = .ok (.iconst 1, 1) := by decide +kernel
theorem d_H_comesBackTo_23 : decode me_H_comesBackTo.2.1 23 = .ok (.isub, 1) := by decide +kernel
theorem d_H_comesBackTo_24 : decode me_H_comesBackTo.2.1 24 = .ok (.istore_n 2, 1) := by decide +kernel
theorem d_H_comesBackTo_25 : decode me_H_comesBackTo.2.1 25 = .ok (.iload_n 2, 1) := by decide +kernel
theorem d_H_comesBackTo_26 : decode me_H_comesBackTo.2.1 26 = .ok (.ifCond .lt 32, 3) := by decide +kernel
theorem d_H_comesBackTo_29 : decode me_H_comesBackTo.2.1 29 = .ok (.aload_n 0, 1) := by decide +kernel
theorem d_H_comesBackTo_30 : decode me_H_comesBackTo.2.1 30 = .ok (.getfield 9, 3) := by decide +kernel
theorem d_H_comesBackTo_33 : decode me_H_comesBackTo.2.1 33 = .ok (.iload_n 2, 1) := by decide +kernel
theorem d_H_comesBackTo_34 : decode me_H_comesBackTo.2.1 34 = .ok (.aload_n 0, 1) := by decide +kernel
theorem d_H_comesBackTo_35 : decode me_H_comesBackTo.2.1 35 = .ok (.aload_n 0, 1) := by decide +kernel
theorem d_H_comesBackTo_36 : decode me_H_comesBackTo.2.1 36 = .ok (.getfield 9, 3) := by decide +kernel
theorem d_H_comesBackTo_39 : decode me_H_comesBackTo.2.1 39 = .ok (.iload_n 2, 1) := by decide +kernel
theorem d_H_comesBackTo_40 : decode me_H_comesBackTo.2.1 40 = .ok (.iconst 1, 1) := by decide +kernel
theorem d_H_comesBackTo_41 : decode me_H_comesBackTo.2.1 41 = .ok (.iadd, 1) := by decide +kernel
theorem d_H_comesBackTo_42 : decode me_H_comesBackTo.2.1 42 = .ok (.laload, 1) := by decide +kernel
theorem d_H_comesBackTo_43 : decode me_H_comesBackTo.2.1 43 = .ok (.aload_n 0, 1) := by decide +kernel
theorem d_H_comesBackTo_44 : decode me_H_comesBackTo.2.1 44 = .ok (.iload_n 2, 1) := by decide +kernel
theorem d_H_comesBackTo_45 : decode me_H_comesBackTo.2.1 45 = .ok (.invokevirtual 83, 3) := by decide +kernel
theorem d_H_comesBackTo_48 : decode me_H_comesBackTo.2.1 48 = .ok (.invokevirtual 87, 3) := by decide +kernel
theorem d_H_comesBackTo_51 : decode me_H_comesBackTo.2.1 51 = .ok (.lastore, 1) := by decide +kernel
theorem d_H_comesBackTo_52 : decode me_H_comesBackTo.2.1 52 = .ok (.iinc 2 (-1), 3) := by decide +kernel
theorem d_H_comesBackTo_55 : decode me_H_comesBackTo.2.1 55 = .ok (.goto (-30), 3) := by decide +kernel
theorem d_H_comesBackTo_58 : decode me_H_comesBackTo.2.1 58 = .ok (.aload_n 0, 1) := by decide +kernel
theorem d_H_comesBackTo_59 : decode me_H_comesBackTo.2.1 59 = .ok (.getfield 9, 3) := by decide +kernel
theorem d_H_comesBackTo_62 : decode me_H_comesBackTo.2.1 62 = .ok (.iconst 0, 1) := by decide +kernel
theorem d_H_comesBackTo_63 : decode me_H_comesBackTo.2.1 63 = .ok (.laload, 1) := by decide +kernel
theorem d_H_comesBackTo_64 : decode me_H_comesBackTo.2.1 64 = .ok (.iload_n 1, 1) := by decide +kernel
theorem d_H_comesBackTo_65 : decode me_H_comesBackTo.2.1 65 = .ok (.lushr, 1) := by decide +kernel
theorem d_H_comesBackTo_66 : decode me_H_comesBackTo.2.1 66 = .ok (.lconst 1, 1) := by decide +kernel
theorem d_H_comesBackTo_67 : decode me_H_comesBackTo.2.1 67 = .ok (.land, 1) := by decide +kernel
theorem d_H_comesBackTo_68 : decode me_H_comesBackTo.2.1 68 = .ok (.lconst 0, 1) := by decide +kernel
theorem d_H_comesBackTo_69 : decode me_H_comesBackTo.2.1 69 = .ok (.lcmp, 1) := by decide +kernel
theorem d_H_comesBackTo_70 : decode me_H_comesBackTo.2.1 70 = .ok (.ifCond .eq 7, 3) := by decide +kernel
theorem d_H_comesBackTo_73 : decode me_H_comesBackTo.2.1 73 = .ok (.iconst 1, 1) := by decide +kernel
theorem d_H_comesBackTo_74 : decode me_H_comesBackTo.2.1 74 = .ok (.goto 4, 3) := by decide +kernel
theorem d_H_comesBackTo_77 : decode me_H_comesBackTo.2.1 77 = .ok (.iconst 0, 1) := by decide +kernel
theorem d_H_comesBackTo_78 : decode me_H_comesBackTo.2.1 78 = .ok (.ireturn, 1) := by decide +kernel
abbrev G_H_comesBackTo_0 (l : Launch) (v : gs_V) (n : Nat) (post : Int32 → gs_S → Prop) (σ : gs_S) (x1 : Int32) : Prop := gG l v lyC 42 me_H_comesBackTo n (qI v lyC 42 post) 0 [(0, .ref (v.2.2 37)), (1, .int x1)] [] σ
abbrev G_H_comesBackTo_25 (l : Launch) (v : gs_V) (n : Nat) (post : Int32 → gs_S → Prop) (σ : gs_S) (x1 : Int32) (x2 : Int32) : Prop := gG l v lyC 42 me_H_comesBackTo n (qI v lyC 42 post) 25 [(0, .ref (v.2.2 37)), (1, .int x1), (2, .int x2)] [] σ
abbrev G_H_comesBackTo_78 (l : Launch) (v : gs_V) (n : Nat) (post : Int32 → gs_S → Prop) (σ : gs_S) (s0 : Int32) : Prop := gG l v lyC 42 me_H_comesBackTo n (qI v lyC 42 post) 78 [] [.int s0] σ
set_option maxRecDepth 20000 in
set_option maxHeartbeats 1000000 in
theorem T_H_comesBackTo_0 {l : Launch} {v : gs_V} {n : Nat} {post : Int32 → gs_S → Prop} {σ : gs_S} {x1 : Int32} (h : vp_in (σ.1 10 1) 65 ∧ G_H_comesBackTo_25 l v n post (gs_pL σ 38 ((σ.1 10 1).toNatClampNeg) (jS 1 x1)) x1 ((σ.1 10 1) - 1)) : G_H_comesBackTo_0 l v n post σ x1 := by
  refine g_aload_n d_H_comesBackTo_0 0 rfl rfl ?_
  refine g_getV (x := .ref (v.2.2 38)) d_H_comesBackTo_1 fl_H_9 (by decide) rfl rfl rfl ?_
  refine g_aload_n d_H_comesBackTo_4 0 rfl rfl ?_
  refine g_getV (x := .ref (v.2.2 10)) d_H_comesBackTo_5 fl_H_43 (by decide) rfl rfl rfl ?_
  refine g_getV (x := .int (σ.1 10 1)) d_H_comesBackTo_8 fl_H_80 (by decide) rfl rfl rfl ?_
  refine g_lconst d_H_comesBackTo_11 (x := 1) (by decide) ?_
  refine g_iload_n d_H_comesBackTo_12 1 rfl rfl ?_
  refine g_lshl d_H_comesBackTo_13 ?_
  have hi1 := h.1
  have h := h.2
  refine g_last d_H_comesBackTo_14 (by decide) rfl hi1 ?_
  refine g_aload_n d_H_comesBackTo_15 0 rfl rfl ?_
  refine g_getV (x := .ref (v.2.2 10)) d_H_comesBackTo_16 fl_H_43 (by decide) rfl rfl rfl ?_
  refine g_getV (x := .int (σ.1 10 1)) d_H_comesBackTo_19 fl_H_80 (by decide) rfl rfl rfl ?_
  refine g_iconst d_H_comesBackTo_22 (x := 1) (by decide) ?_
  refine g_isub d_H_comesBackTo_23 ?_
  refine g_istore_n (L' := [(2, .int ((σ.1 10 1) - 1)), (0, .ref (v.2.2 37)), (1, .int x1)]) d_H_comesBackTo_24 rfl (by decide) rfl ?_
  exact g_sub [1, 2, 0] rfl h
set_option maxRecDepth 20000 in
set_option maxHeartbeats 1000000 in
theorem T_H_comesBackTo_25 {l : Launch} {v : gs_V} {n : Nat} {post : Int32 → gs_S → Prop} {σ : gs_S} {x1 : Int32} {x2 : Int32} (h : ((x2 < 0 → ((((jU (σ.2.1 38 0) x1) &&& 1) = 0 → G_H_comesBackTo_78 l v n post σ 0) ∧ (¬ ((jU (σ.2.1 38 0) x1) &&& 1) = 0 → G_H_comesBackTo_78 l v n post σ 1))) ∧ (¬ x2 < 0 → vp_in (x2 + 1) 65 ∧ gM l v lyC 42 me_H_due n [.ref (v.2.2 37), .int x2] σ (qI v lyC 42 (fun r2 σ2 => gM l v lyC 42 me_H_leadingInto n [.ref (v.2.2 37), .long (σ.2.1 38 ((x2 + 1).toNatClampNeg)), .int r2] σ2 (qL v lyC 42 (fun r3 σ3 => vp_in x2 65 ∧ G_H_comesBackTo_25 l v n post (gs_pL σ3 38 x2.toNatClampNeg r3) x1 (x2 + (-1))))))))) : G_H_comesBackTo_25 l v n post σ x1 x2 := by
  refine g_iload_n d_H_comesBackTo_25 2 rfl rfl ?_
  refine g_if_lt (tgt := 58) d_H_comesBackTo_26 rfl (fun hc => ?_) (fun hc => ?_)
  · have h := h.1 hc
    refine g_aload_n d_H_comesBackTo_58 0 rfl rfl ?_
    refine g_getV (x := .ref (v.2.2 38)) d_H_comesBackTo_59 fl_H_9 (by decide) rfl rfl rfl ?_
    refine g_iconst d_H_comesBackTo_62 (x := 0) (by decide) ?_
    refine g_lald (x := σ.2.1 38 0) d_H_comesBackTo_63 (by decide) rfl (g_lit (k := 0) (by decide) (by decide)) rfl ?_
    refine g_iload_n d_H_comesBackTo_64 1 rfl rfl ?_
    refine g_lushr d_H_comesBackTo_65 ?_
    refine g_lconst d_H_comesBackTo_66 (x := 1) (by decide) ?_
    refine g_land d_H_comesBackTo_67 ?_
    refine g_lconst d_H_comesBackTo_68 (x := 0) (by decide) ?_
    refine g_lcmp_eq (tgt := 77) d_H_comesBackTo_69 d_H_comesBackTo_70 rfl (fun hc => ?_) (fun hc => ?_)
    · have h := h.1 hc
      refine g_iconst d_H_comesBackTo_77 (x := 0) (by decide) ?_
      exact g_sub [] rfl h
    · have h := h.2 hc
      refine g_iconst d_H_comesBackTo_73 (x := 1) (by decide) ?_
      refine g_goto (tgt := 78) d_H_comesBackTo_74 rfl ?_
      exact g_sub [] rfl h
  · have h := h.2 hc
    refine g_aload_n d_H_comesBackTo_29 0 rfl rfl ?_
    refine g_getV (x := .ref (v.2.2 38)) d_H_comesBackTo_30 fl_H_9 (by decide) rfl rfl rfl ?_
    refine g_iload_n d_H_comesBackTo_33 2 rfl rfl ?_
    refine g_aload_n d_H_comesBackTo_34 0 rfl rfl ?_
    refine g_aload_n d_H_comesBackTo_35 0 rfl rfl ?_
    refine g_getV (x := .ref (v.2.2 38)) d_H_comesBackTo_36 fl_H_9 (by decide) rfl rfl rfl ?_
    refine g_iload_n d_H_comesBackTo_39 2 rfl rfl ?_
    refine g_iconst d_H_comesBackTo_40 (x := 1) (by decide) ?_
    refine g_iadd d_H_comesBackTo_41 ?_
    have hi1 := h.1
    have h := h.2
    refine g_lald (x := σ.2.1 38 ((x2 + 1).toNatClampNeg)) d_H_comesBackTo_42 (by decide) rfl hi1 rfl ?_
    refine g_aload_n d_H_comesBackTo_43 0 rfl rfl ?_
    refine g_iload_n d_H_comesBackTo_44 2 rfl rfl ?_
    refine g_callVi (av := [.int x2]) (rest := [.long (σ.2.1 38 ((x2 + 1).toNatClampNeg)), .ref (v.2.2 37), .int x2, .ref (v.2.2 38)]) d_H_comesBackTo_45 Y_H_due lk_H_83 (by decide) rfl rfl I_H_due rfl (Nat.le_of_ble_eq_true rfl) rfl h (fun r2 σ2 h => ?_)
    refine g_callVl (av := [.long (σ.2.1 38 ((x2 + 1).toNatClampNeg)), .int r2]) (rest := [.int x2, .ref (v.2.2 38)]) d_H_comesBackTo_48 Y_H_leadingInto lk_H_87 (by decide) rfl rfl I_H_leadingInto rfl (Nat.le_of_ble_eq_true rfl) rfl h (fun r3 σ3 h => ?_)
    have hi4 := h.1
    have h := h.2
    refine g_last d_H_comesBackTo_51 (by decide) rfl hi4 ?_
    refine g_iinc (L' := [(2, .int (x2 + (-1))), (0, .ref (v.2.2 37)), (1, .int x1)]) d_H_comesBackTo_52 2 rfl (by rfl) (by decide) rfl ?_
    refine g_goto (tgt := 25) d_H_comesBackTo_55 rfl ?_
    exact g_sub [1, 2, 0] rfl h
set_option maxRecDepth 20000 in
set_option maxHeartbeats 1000000 in
theorem T_H_comesBackTo_78 {l : Launch} {v : gs_V} {n : Nat} {post : Int32 → gs_S → Prop} {σ : gs_S} {s0 : Int32} (h : narrow .boolean (.int s0) = .int s0 ∧ post s0 σ) : G_H_comesBackTo_78 l v n post σ s0 := by
  exact g_zret d_H_comesBackTo_78 rfl h.1 h.2
theorem E_H_comesBackTo {l : Launch} {v : gs_V} {n : Nat} {post : Int32 → gs_S → Prop} {σ : gs_S} {x1 : Int32} (h : G_H_comesBackTo_0 l v n post σ x1) : gM l v lyC 42 me_H_comesBackTo (n + 1) [.ref (v.2.2 37), .int x1] σ (qI v lyC 42 post) := gM_of (by decide +kernel) (Nat.le_of_ble_eq_true rfl) h
/-! LineRules$Past.count -/
theorem d_H_count_0 : decode me_H_count.2.1 0 = .ok (.aload_n 0, 1) := by decide +kernel
theorem d_H_count_1 : decode me_H_count.2.1 1 = .ok (.getfield 32, 3) := by decide +kernel
theorem d_H_count_4 : decode me_H_count.2.1 4 = .ok (.ifCond .ne 46, 3) := by decide +kernel
theorem d_H_count_7 : decode me_H_count.2.1 7 = .ok (.aload_n 0, 1) := by decide +kernel
theorem d_H_count_8 : decode me_H_count.2.1 8 = .ok (.iconst 1, 1) := by decide +kernel
theorem d_H_count_9 : decode me_H_count.2.1 9 = .ok (.putfield 32, 3) := by decide +kernel
theorem d_H_count_12 : decode me_H_count.2.1 12 = .ok (.aload_n 0, 1) := by decide +kernel
theorem d_H_count_13 : decode me_H_count.2.1 13 = .ok (.lconst 0, 1) := by decide +kernel
theorem d_H_count_14 : decode me_H_count.2.1 14 = .ok (.putfield 35, 3) := by decide +kernel
theorem d_H_count_17 : decode me_H_count.2.1 17 = .ok (.iconst 0, 1) := by decide +kernel
theorem d_H_count_18 : decode me_H_count.2.1 18 = .ok (.istore_n 1, 1) := by decide +kernel
theorem d_H_count_19 : decode me_H_count.2.1 19 = .ok (.iload_n 1, 1) := by decide +kernel
theorem d_H_count_20 : decode me_H_count.2.1 20 = .ok (.aload_n 0, 1) := by decide +kernel
theorem d_H_count_21 : decode me_H_count.2.1 21 = .ok (.getfield 39, 3) := by decide +kernel
theorem d_H_count_24 : decode me_H_count.2.1 24 = .ok (.getfield 56, 3) := by decide +kernel
theorem d_H_count_27 : decode me_H_count.2.1 27 = .ok (.if_icmp .ge 23, 3) := by decide +kernel
theorem d_H_count_30 : decode me_H_count.2.1 30 = .ok (.aload_n 0, 1) := by decide +kernel
theorem d_H_count_31 : decode me_H_count.2.1 31 = .ok (.dup, 1) := by decide +kernel
theorem d_H_count_32 : decode me_H_count.2.1 32 = .ok (.getfield 35, 3) := by decide +kernel
theorem d_H_count_35 : decode me_H_count.2.1 35 = .ok (.aload_n 0, 1) := by decide +kernel
theorem d_H_count_36 : decode me_H_count.2.1 36 = .ok (.iload_n 1, 1) := by decide +kernel
theorem d_H_count_37 : decode me_H_count.2.1 37 = .ok (.invokevirtual 62, 3) := by decide +kernel
theorem d_H_count_40 : decode me_H_count.2.1 40 = .ok (.ladd, 1) := by decide +kernel
theorem d_H_count_41 : decode me_H_count.2.1 41 = .ok (.putfield 35, 3) := by decide +kernel
theorem d_H_count_44 : decode me_H_count.2.1 44 = .ok (.iinc 1 1, 3) := by decide +kernel
theorem d_H_count_47 : decode me_H_count.2.1 47 = .ok (.goto (-28), 3) := by decide +kernel
theorem d_H_count_50 : decode me_H_count.2.1 50 = .ok (.aload_n 0, 1) := by decide +kernel
theorem d_H_count_51 : decode me_H_count.2.1 51 = .ok (.getfield 35, 3) := by decide +kernel
theorem d_H_count_54 : decode me_H_count.2.1 54 = .ok (.lreturn, 1) := by decide +kernel
abbrev G_H_count_0 (l : Launch) (v : gs_V) (n : Nat) (post : Int64 → gs_S → Prop) (σ : gs_S) : Prop := gG l v lyC 42 me_H_count n (qL v lyC 42 post) 0 [(0, .ref (v.2.2 37))] [] σ
abbrev G_H_count_19 (l : Launch) (v : gs_V) (n : Nat) (post : Int64 → gs_S → Prop) (σ : gs_S) (x1 : Int32) : Prop := gG l v lyC 42 me_H_count n (qL v lyC 42 post) 19 [(0, .ref (v.2.2 37)), (1, .int x1)] [] σ
abbrev G_H_count_50 (l : Launch) (v : gs_V) (n : Nat) (post : Int64 → gs_S → Prop) (σ : gs_S) : Prop := gG l v lyC 42 me_H_count n (qL v lyC 42 post) 50 [(0, .ref (v.2.2 37))] [] σ
set_option maxRecDepth 20000 in
set_option maxHeartbeats 1000000 in
theorem T_H_count_0 {l : Launch} {v : gs_V} {n : Nat} {post : Int64 → gs_S → Prop} {σ : gs_S} (h : ((¬ (σ.1 37 8) = 0 → G_H_count_50 l v n post σ) ∧ ((σ.1 37 8) = 0 → G_H_count_19 l v n post (gs_pL (gs_pI σ 37 8 1) 37 9 0) 0))) : G_H_count_0 l v n post σ := by
  refine g_aload_n d_H_count_0 0 rfl rfl ?_
  refine g_getV (x := .int (σ.1 37 8)) d_H_count_1 fl_H_32 (by decide) rfl rfl rfl ?_
  refine g_if_ne (tgt := 50) d_H_count_4 rfl (fun hc => ?_) (fun hc => ?_)
  · have h := h.1 hc
    exact h
  · have h := h.2 hc
    refine g_aload_n d_H_count_7 0 rfl rfl ?_
    refine g_iconst d_H_count_8 (x := 1) (by decide) ?_
    refine g_putI d_H_count_9 fp_H_32 (by decide) rfl rfl ⟨rfl, rfl⟩ ?_
    refine g_aload_n d_H_count_12 0 rfl rfl ?_
    refine g_lconst d_H_count_13 (x := 0) (by decide) ?_
    refine g_putL d_H_count_14 fp_H_35 (by decide) rfl rfl ?_
    refine g_iconst d_H_count_17 (x := 0) (by decide) ?_
    refine g_istore_n (L' := [(1, .int 0), (0, .ref (v.2.2 37))]) d_H_count_18 rfl (by decide) rfl ?_
    exact g_sub [1, 0] rfl h
set_option maxRecDepth 20000 in
set_option maxHeartbeats 1000000 in
theorem T_H_count_19 {l : Launch} {v : gs_V} {n : Nat} {post : Int64 → gs_S → Prop} {σ : gs_S} {x1 : Int32} (h : (((σ.1 4 9) ≤ x1 → G_H_count_50 l v n post σ) ∧ (¬ (σ.1 4 9) ≤ x1 → gM l v lyC 42 me_H_walksBackTo n [.ref (v.2.2 37), .int x1] σ (qL v lyC 42 (fun r1 σ1 => G_H_count_19 l v n post (gs_pL σ1 37 9 ((σ.2.1 37 9) + r1)) (x1 + 1)))))) : G_H_count_19 l v n post σ x1 := by
  refine g_iload_n d_H_count_19 1 rfl rfl ?_
  refine g_aload_n d_H_count_20 0 rfl rfl ?_
  refine g_getV (x := .ref (v.2.2 4)) d_H_count_21 fl_H_39 (by decide) rfl rfl rfl ?_
  refine g_getV (x := .int (σ.1 4 9)) d_H_count_24 fl_H_56 (by decide) rfl rfl rfl ?_
  refine g_icmp_ge (tgt := 50) d_H_count_27 rfl (fun hc => ?_) (fun hc => ?_)
  · have h := h.1 hc
    exact g_sub [0] rfl h
  · have h := h.2 hc
    refine g_aload_n d_H_count_30 0 rfl rfl ?_
    refine g_dup d_H_count_31 rfl ?_
    refine g_getV (x := .long (σ.2.1 37 9)) d_H_count_32 fl_H_35 (by decide) rfl rfl rfl ?_
    refine g_aload_n d_H_count_35 0 rfl rfl ?_
    refine g_iload_n d_H_count_36 1 rfl rfl ?_
    refine g_callVl (av := [.int x1]) (rest := [.long (σ.2.1 37 9), .ref (v.2.2 37)]) d_H_count_37 Y_H_walksBackTo lk_H_62 (by decide) rfl rfl I_H_walksBackTo rfl (Nat.le_of_ble_eq_true rfl) rfl h (fun r1 σ1 h => ?_)
    refine g_ladd d_H_count_40 ?_
    refine g_putL d_H_count_41 fp_H_35 (by decide) rfl rfl ?_
    refine g_iinc (L' := [(1, .int (x1 + 1)), (0, .ref (v.2.2 37))]) d_H_count_44 1 rfl (by rfl) (by decide) rfl ?_
    refine g_goto (tgt := 19) d_H_count_47 rfl ?_
    exact g_sub [1, 0] rfl h
set_option maxRecDepth 20000 in
set_option maxHeartbeats 1000000 in
theorem T_H_count_50 {l : Launch} {v : gs_V} {n : Nat} {post : Int64 → gs_S → Prop} {σ : gs_S} (h : post (σ.2.1 37 9) σ) : G_H_count_50 l v n post σ := by
  refine g_aload_n d_H_count_50 0 rfl rfl ?_
  refine g_getV (x := .long (σ.2.1 37 9)) d_H_count_51 fl_H_35 (by decide) rfl rfl rfl ?_
  exact g_lret d_H_count_54 rfl h
theorem E_H_count {l : Launch} {v : gs_V} {n : Nat} {post : Int64 → gs_S → Prop} {σ : gs_S} (h : G_H_count_0 l v n post σ) : gM l v lyC 42 me_H_count (n + 1) [.ref (v.2.2 37)] σ (qL v lyC 42 post) := gM_of (by decide +kernel) (Nat.le_of_ble_eq_true rfl) h
/-! LineRules$Past.due -/
theorem d_H_due_0 : decode me_H_due.2.1 0 = .ok (.aload_n 0, 1) := by decide +kernel
theorem d_H_due_1 : decode me_H_due.2.1 1 = .ok (.getfield 43, 3) := by decide +kernel
theorem d_H_due_4 : decode me_H_due.2.1 4 = .ok (.getfield 73, 3) := by decide +kernel
theorem d_H_due_7 : decode me_H_due.2.1 7 = .ok (.iload_n 1, 1) := by decide +kernel
theorem d_H_due_8 : decode me_H_due.2.1 8 = .ok (.aload_n 0, 1) := by decide +kernel
theorem d_H_due_9 : decode me_H_due.2.1 9 = .ok (.getfield 39, 3) := by decide +kernel
theorem d_H_due_12 : decode me_H_due.2.1 12 = .ok (.invokevirtual 76, 3) := by decide +kernel
theorem d_H_due_15 : decode me_H_due.2.1 15 = .ok (.iadd, 1) := by decide +kernel
theorem d_H_due_16 : decode me_H_due.2.1 16 = .ok (.aload_n 0, 1) := by decide +kernel
theorem d_H_due_17 : decode me_H_due.2.1 17 = .ok (.getfield 43, 3) := by decide +kernel
theorem d_H_due_20 : decode me_H_due.2.1 20 = .ok (.getfield 80, 3) := by decide +kernel
theorem d_H_due_23 : decode me_H_due.2.1 23 = .ok (.irem, 1) := by decide +kernel
theorem d_H_due_24 : decode me_H_due.2.1 24 = .ok (.iaload, 1) := by decide +kernel
theorem d_H_due_25 : decode me_H_due.2.1 25 = .ok (.ireturn, 1) := by decide +kernel
abbrev G_H_due_0 (l : Launch) (v : gs_V) (n : Nat) (post : Int32 → gs_S → Prop) (σ : gs_S) (x1 : Int32) : Prop := gG l v lyC 42 me_H_due n (qI v lyC 42 post) 0 [(0, .ref (v.2.2 37)), (1, .int x1)] [] σ
set_option maxRecDepth 20000 in
set_option maxHeartbeats 1000000 in
theorem T_H_due_0 {l : Launch} {v : gs_V} {n : Nat} {post : Int32 → gs_S → Prop} {σ : gs_S} {x1 : Int32} (h : gM l v lyC 42 me_R_left n [.ref (v.2.2 4)] σ (qI v lyC 42 (fun r1 σ1 => ¬ (σ1.1 10 1) = 0 ∧ vp_in (jR (x1 + r1) (σ1.1 10 1)) 64 ∧ post (σ1.1 11 ((jR (x1 + r1) (σ1.1 10 1)).toNatClampNeg)) σ1))) : G_H_due_0 l v n post σ x1 := by
  refine g_aload_n d_H_due_0 0 rfl rfl ?_
  refine g_getV (x := .ref (v.2.2 10)) d_H_due_1 fl_H_43 (by decide) rfl rfl rfl ?_
  refine g_getV (x := .ref (v.2.2 11)) d_H_due_4 fl_H_73 (by decide) rfl rfl rfl ?_
  refine g_iload_n d_H_due_7 1 rfl rfl ?_
  refine g_aload_n d_H_due_8 0 rfl rfl ?_
  refine g_getV (x := .ref (v.2.2 4)) d_H_due_9 fl_H_39 (by decide) rfl rfl rfl ?_
  refine g_callVi (av := []) (rest := [.int x1, .ref (v.2.2 11)]) d_H_due_12 Y_R_left lk_H_76 (by decide) rfl rfl I_R_left rfl (Nat.le_of_ble_eq_true rfl) rfl h (fun r1 σ1 h => ?_)
  refine g_iadd d_H_due_15 ?_
  refine g_aload_n d_H_due_16 0 rfl rfl ?_
  refine g_getV (x := .ref (v.2.2 10)) d_H_due_17 fl_H_43 (by decide) rfl rfl rfl ?_
  refine g_getV (x := .int (σ1.1 10 1)) d_H_due_20 fl_H_80 (by decide) rfl rfl rfl ?_
  refine g_irem d_H_due_23 h.1 ?_
  have h := h.2
  have hi2 := h.1
  have h := h.2
  refine g_iald (x := σ1.1 11 ((jR (x1 + r1) (σ1.1 10 1)).toNatClampNeg)) d_H_due_24 (by decide) rfl hi2 rfl ?_
  exact g_iret d_H_due_25 rfl h
theorem E_H_due {l : Launch} {v : gs_V} {n : Nat} {post : Int32 → gs_S → Prop} {σ : gs_S} {x1 : Int32} (h : G_H_due_0 l v n post σ x1) : gM l v lyC 42 me_H_due (n + 1) [.ref (v.2.2 37), .int x1] σ (qI v lyC 42 post) := gM_of (by decide +kernel) (Nat.le_of_ble_eq_true rfl) h
/-! LineRules$Past.exists -/
theorem d_H_exists_0 : decode me_H_exists.2.1 0 = .ok (.aload_n 0, 1) := by decide +kernel
theorem d_H_exists_1 : decode me_H_exists.2.1 1 = .ok (.invokevirtual 47, 3) := by decide +kernel
theorem d_H_exists_4 : decode me_H_exists.2.1 4 = .ok (.aload_n 0, 1) := by decide +kernel
theorem d_H_exists_5 : decode me_H_exists.2.1 5 = .ok (.getfield 29, 3) := by decide +kernel
theorem d_H_exists_8 : decode me_H_exists.2.1 8 = .ok (.ireturn, 1) := by decide +kernel
abbrev G_H_exists_0 (l : Launch) (v : gs_V) (n : Nat) (post : Int32 → gs_S → Prop) (σ : gs_S) : Prop := gG l v lyC 42 me_H_exists n (qI v lyC 42 post) 0 [(0, .ref (v.2.2 37))] [] σ
set_option maxRecDepth 20000 in
set_option maxHeartbeats 1000000 in
theorem T_H_exists_0 {l : Launch} {v : gs_V} {n : Nat} {post : Int32 → gs_S → Prop} {σ : gs_S} (h : gM l v lyC 42 me_H_find n [.ref (v.2.2 37)] σ (qV v lyC 42 (fun σ1 => narrow .boolean (.int (σ1.1 37 7)) = .int (σ1.1 37 7) ∧ post (σ1.1 37 7) σ1))) : G_H_exists_0 l v n post σ := by
  refine g_aload_n d_H_exists_0 0 rfl rfl ?_
  refine g_callVv (av := []) (rest := []) d_H_exists_1 Y_H_find lk_H_47 (by decide) rfl rfl I_H_find rfl (Nat.le_of_ble_eq_true rfl) rfl h (fun σ1 h => ?_)
  refine g_aload_n d_H_exists_4 0 rfl rfl ?_
  refine g_getV (x := .int (σ1.1 37 7)) d_H_exists_5 fl_H_29 (by decide) rfl rfl rfl ?_
  exact g_zret d_H_exists_8 rfl h.1 h.2
theorem E_H_exists {l : Launch} {v : gs_V} {n : Nat} {post : Int32 → gs_S → Prop} {σ : gs_S} (h : G_H_exists_0 l v n post σ) : gM l v lyC 42 me_H_exists (n + 1) [.ref (v.2.2 37)] σ (qI v lyC 42 post) := gM_of (by decide +kernel) (Nat.le_of_ble_eq_true rfl) h
/-! LineRules$Past.find -/
theorem d_H_find_0 : decode me_H_find.2.1 0 = .ok (.aload_n 0, 1) := by decide +kernel
theorem d_H_find_1 : decode me_H_find.2.1 1 = .ok (.getfield 25, 3) := by decide +kernel
theorem d_H_find_4 : decode me_H_find.2.1 4 = .ok (.ifCond .eq 4, 3) := by decide +kernel
theorem d_H_find_7 : decode me_H_find.2.1 7 = .ok (.return_, 1) := by decide +kernel
theorem d_H_find_8 : decode me_H_find.2.1 8 = .ok (.aload_n 0, 1) := by decide +kernel
theorem d_H_find_9 : decode me_H_find.2.1 9 = .ok (.iconst 1, 1) := by decide +kernel
theorem d_H_find_10 : decode me_H_find.2.1 10 = .ok (.putfield 25, 3) := by decide +kernel
theorem d_H_find_13 : decode me_H_find.2.1 13 = .ok (.aload_n 0, 1) := by decide +kernel
theorem d_H_find_14 : decode me_H_find.2.1 14 = .ok (.iconst 0, 1) := by decide +kernel
theorem d_H_find_15 : decode me_H_find.2.1 15 = .ok (.putfield 29, 3) := by decide +kernel
theorem d_H_find_18 : decode me_H_find.2.1 18 = .ok (.iconst 0, 1) := by decide +kernel
theorem d_H_find_19 : decode me_H_find.2.1 19 = .ok (.istore_n 1, 1) := by decide +kernel
theorem d_H_find_20 : decode me_H_find.2.1 20 = .ok (.iload_n 1, 1) := by decide +kernel
theorem d_H_find_21 : decode me_H_find.2.1 21 = .ok (.aload_n 0, 1) := by decide +kernel
theorem d_H_find_22 : decode me_H_find.2.1 22 = .ok (.getfield 39, 3) := by decide +kernel
theorem d_H_find_25 : decode me_H_find.2.1 25 = .ok (.getfield 56, 3) := by decide +kernel
theorem d_H_find_28 : decode me_H_find.2.1 28 = .ok (.if_icmp .ge 34, 3) := by decide +kernel
theorem d_H_find_31 : decode me_H_find.2.1 31 = .ok (.aload_n 0, 1) := by decide +kernel
theorem d_H_find_32 : decode me_H_find.2.1 32 = .ok (.getfield 29, 3) := by decide +kernel
theorem d_H_find_35 : decode me_H_find.2.1 35 = .ok (.ifCond .ne 27, 3) := by decide +kernel
theorem d_H_find_38 : decode me_H_find.2.1 38 = .ok (.aload_n 0, 1) := by decide +kernel
theorem d_H_find_39 : decode me_H_find.2.1 39 = .ok (.iload_n 1, 1) := by decide +kernel
theorem d_H_find_40 : decode me_H_find.2.1 40 = .ok (.invokevirtual 66, 3) := by decide +kernel
theorem d_H_find_43 : decode me_H_find.2.1 43 = .ok (.ifCond .eq 13, 3) := by decide +kernel
theorem d_H_find_46 : decode me_H_find.2.1 46 = .ok (.aload_n 0, 1) := by decide +kernel
theorem d_H_find_47 : decode me_H_find.2.1 47 = .ok (.iconst 1, 1) := by decide +kernel
theorem d_H_find_48 : decode me_H_find.2.1 48 = .ok (.putfield 29, 3) := by decide +kernel
theorem d_H_find_51 : decode me_H_find.2.1 51 = .ok (.aload_n 0, 1) := by decide +kernel
theorem d_H_find_52 : decode me_H_find.2.1 52 = .ok (.iload_n 1, 1) := by decide +kernel
theorem d_H_find_53 : decode me_H_find.2.1 53 = .ok (.invokevirtual 69, 3) := by decide +kernel
theorem d_H_find_56 : decode me_H_find.2.1 56 = .ok (.iinc 1 1, 3) := by decide +kernel
theorem d_H_find_59 : decode me_H_find.2.1 59 = .ok (.goto (-39), 3) := by decide +kernel
theorem d_H_find_62 : decode me_H_find.2.1 62 = .ok (.return_, 1) := by decide +kernel
abbrev G_H_find_0 (l : Launch) (v : gs_V) (n : Nat) (post : gs_S → Prop) (σ : gs_S) : Prop := gG l v lyC 42 me_H_find n (qV v lyC 42 post) 0 [(0, .ref (v.2.2 37))] [] σ
abbrev G_H_find_20 (l : Launch) (v : gs_V) (n : Nat) (post : gs_S → Prop) (σ : gs_S) (x1 : Int32) : Prop := gG l v lyC 42 me_H_find n (qV v lyC 42 post) 20 [(0, .ref (v.2.2 37)), (1, .int x1)] [] σ
abbrev G_H_find_56 (l : Launch) (v : gs_V) (n : Nat) (post : gs_S → Prop) (σ : gs_S) (x1 : Int32) : Prop := gG l v lyC 42 me_H_find n (qV v lyC 42 post) 56 [(0, .ref (v.2.2 37)), (1, .int x1)] [] σ
abbrev G_H_find_62 (l : Launch) (v : gs_V) (n : Nat) (post : gs_S → Prop) (σ : gs_S) : Prop := gG l v lyC 42 me_H_find n (qV v lyC 42 post) 62 [] [] σ
set_option maxRecDepth 20000 in
set_option maxHeartbeats 1000000 in
theorem T_H_find_0 {l : Launch} {v : gs_V} {n : Nat} {post : gs_S → Prop} {σ : gs_S} (h : (((σ.1 37 6) = 0 → G_H_find_20 l v n post (gs_pI (gs_pI σ 37 6 1) 37 7 0) 0) ∧ (¬ (σ.1 37 6) = 0 → post σ))) : G_H_find_0 l v n post σ := by
  refine g_aload_n d_H_find_0 0 rfl rfl ?_
  refine g_getV (x := .int (σ.1 37 6)) d_H_find_1 fl_H_25 (by decide) rfl rfl rfl ?_
  refine g_if_eq (tgt := 8) d_H_find_4 rfl (fun hc => ?_) (fun hc => ?_)
  · have h := h.1 hc
    refine g_aload_n d_H_find_8 0 rfl rfl ?_
    refine g_iconst d_H_find_9 (x := 1) (by decide) ?_
    refine g_putI d_H_find_10 fp_H_25 (by decide) rfl rfl ⟨rfl, rfl⟩ ?_
    refine g_aload_n d_H_find_13 0 rfl rfl ?_
    refine g_iconst d_H_find_14 (x := 0) (by decide) ?_
    refine g_putI d_H_find_15 fp_H_29 (by decide) rfl rfl ⟨rfl, rfl⟩ ?_
    refine g_iconst d_H_find_18 (x := 0) (by decide) ?_
    refine g_istore_n (L' := [(1, .int 0), (0, .ref (v.2.2 37))]) d_H_find_19 rfl (by decide) rfl ?_
    exact g_sub [1, 0] rfl h
  · have h := h.2 hc
    exact g_vret d_H_find_7 rfl h
set_option maxRecDepth 20000 in
set_option maxHeartbeats 1000000 in
theorem T_H_find_20 {l : Launch} {v : gs_V} {n : Nat} {post : gs_S → Prop} {σ : gs_S} {x1 : Int32} (h : (((σ.1 4 9) ≤ x1 → G_H_find_62 l v n post σ) ∧ (¬ (σ.1 4 9) ≤ x1 → ((¬ (σ.1 37 7) = 0 → G_H_find_62 l v n post σ) ∧ ((σ.1 37 7) = 0 → gM l v lyC 42 me_H_comesBackTo n [.ref (v.2.2 37), .int x1] σ (qI v lyC 42 (fun r1 σ1 => ((r1 = 0 → G_H_find_56 l v n post σ1 x1) ∧ (¬ r1 = 0 → gM l v lyC 42 me_H_trace n [.ref (v.2.2 37), .int x1] (gs_pI σ1 37 7 1) (qV v lyC 42 (fun σ2 => G_H_find_56 l v n post σ2 x1))))))))))) : G_H_find_20 l v n post σ x1 := by
  refine g_iload_n d_H_find_20 1 rfl rfl ?_
  refine g_aload_n d_H_find_21 0 rfl rfl ?_
  refine g_getV (x := .ref (v.2.2 4)) d_H_find_22 fl_H_39 (by decide) rfl rfl rfl ?_
  refine g_getV (x := .int (σ.1 4 9)) d_H_find_25 fl_H_56 (by decide) rfl rfl rfl ?_
  refine g_icmp_ge (tgt := 62) d_H_find_28 rfl (fun hc => ?_) (fun hc => ?_)
  · have h := h.1 hc
    exact g_sub [] rfl h
  · have h := h.2 hc
    refine g_aload_n d_H_find_31 0 rfl rfl ?_
    refine g_getV (x := .int (σ.1 37 7)) d_H_find_32 fl_H_29 (by decide) rfl rfl rfl ?_
    refine g_if_ne (tgt := 62) d_H_find_35 rfl (fun hc => ?_) (fun hc => ?_)
    · have h := h.1 hc
      exact g_sub [] rfl h
    · have h := h.2 hc
      refine g_aload_n d_H_find_38 0 rfl rfl ?_
      refine g_iload_n d_H_find_39 1 rfl rfl ?_
      refine g_callVi (av := [.int x1]) (rest := []) d_H_find_40 Y_H_comesBackTo lk_H_66 (by decide) rfl rfl I_H_comesBackTo rfl (Nat.le_of_ble_eq_true rfl) rfl h (fun r1 σ1 h => ?_)
      refine g_if_eq (tgt := 56) d_H_find_43 rfl (fun hc => ?_) (fun hc => ?_)
      · have h := h.1 hc
        exact h
      · have h := h.2 hc
        refine g_aload_n d_H_find_46 0 rfl rfl ?_
        refine g_iconst d_H_find_47 (x := 1) (by decide) ?_
        refine g_putI d_H_find_48 fp_H_29 (by decide) rfl rfl ⟨rfl, rfl⟩ ?_
        refine g_aload_n d_H_find_51 0 rfl rfl ?_
        refine g_iload_n d_H_find_52 1 rfl rfl ?_
        refine g_callVv (av := [.int x1]) (rest := []) d_H_find_53 Y_H_trace lk_H_69 (by decide) rfl rfl I_H_trace rfl (Nat.le_of_ble_eq_true rfl) rfl h (fun σ2 h => ?_)
        exact h
set_option maxRecDepth 20000 in
set_option maxHeartbeats 1000000 in
theorem T_H_find_56 {l : Launch} {v : gs_V} {n : Nat} {post : gs_S → Prop} {σ : gs_S} {x1 : Int32} (h : G_H_find_20 l v n post σ (x1 + 1)) : G_H_find_56 l v n post σ x1 := by
  refine g_iinc (L' := [(1, .int (x1 + 1)), (0, .ref (v.2.2 37))]) d_H_find_56 1 rfl (by rfl) (by decide) rfl ?_
  refine g_goto (tgt := 20) d_H_find_59 rfl ?_
  exact g_sub [1, 0] rfl h
set_option maxRecDepth 20000 in
set_option maxHeartbeats 1000000 in
theorem T_H_find_62 {l : Launch} {v : gs_V} {n : Nat} {post : gs_S → Prop} {σ : gs_S} (h : post σ) : G_H_find_62 l v n post σ := by
  exact g_vret d_H_find_62 rfl h
theorem E_H_find {l : Launch} {v : gs_V} {n : Nat} {post : gs_S → Prop} {σ : gs_S} (h : G_H_find_0 l v n post σ) : gM l v lyC 42 me_H_find (n + 1) [.ref (v.2.2 37)] σ (qV v lyC 42 post) := gM_of (by decide +kernel) (Nat.le_of_ble_eq_true rfl) h
/-! LineRules$Past.forget -/
theorem d_H_forget_0 : decode me_H_forget.2.1 0 = .ok (.aload_n 0, 1) := by decide +kernel
theorem d_H_forget_1 : decode me_H_forget.2.1 1 = .ok (.iconst 0, 1) := by decide +kernel
theorem d_H_forget_2 : decode me_H_forget.2.1 2 = .ok (.putfield 25, 3) := by decide +kernel
theorem d_H_forget_5 : decode me_H_forget.2.1 5 = .ok (.aload_n 0, 1) := by decide +kernel
theorem d_H_forget_6 : decode me_H_forget.2.1 6 = .ok (.iconst 0, 1) := by decide +kernel
theorem d_H_forget_7 : decode me_H_forget.2.1 7 = .ok (.putfield 32, 3) := by decide +kernel
theorem d_H_forget_10 : decode me_H_forget.2.1 10 = .ok (.return_, 1) := by decide +kernel
abbrev G_H_forget_0 (l : Launch) (v : gs_V) (n : Nat) (post : gs_S → Prop) (σ : gs_S) : Prop := gG l v lyC 42 me_H_forget n (qV v lyC 42 post) 0 [(0, .ref (v.2.2 37))] [] σ
set_option maxRecDepth 20000 in
set_option maxHeartbeats 1000000 in
theorem T_H_forget_0 {l : Launch} {v : gs_V} {n : Nat} {post : gs_S → Prop} {σ : gs_S} (h : post (gs_pI (gs_pI σ 37 6 0) 37 8 0)) : G_H_forget_0 l v n post σ := by
  refine g_aload_n d_H_forget_0 0 rfl rfl ?_
  refine g_iconst d_H_forget_1 (x := 0) (by decide) ?_
  refine g_putI d_H_forget_2 fp_H_25 (by decide) rfl rfl ⟨rfl, rfl⟩ ?_
  refine g_aload_n d_H_forget_5 0 rfl rfl ?_
  refine g_iconst d_H_forget_6 (x := 0) (by decide) ?_
  refine g_putI d_H_forget_7 fp_H_32 (by decide) rfl rfl ⟨rfl, rfl⟩ ?_
  exact g_vret d_H_forget_10 rfl h
theorem E_H_forget {l : Launch} {v : gs_V} {n : Nat} {post : gs_S → Prop} {σ : gs_S} (h : G_H_forget_0 l v n post σ) : gM l v lyC 42 me_H_forget (n + 1) [.ref (v.2.2 37)] σ (qV v lyC 42 post) := gM_of (by decide +kernel) (Nat.le_of_ble_eq_true rfl) h
/-! LineRules$Past.goOn -/
theorem d_H_goOn_0 : decode me_H_goOn.2.1 0 = .ok (.aload_n 0, 1) := by decide +kernel
theorem d_H_goOn_1 : decode me_H_goOn.2.1 1 = .ok (.getfield 19, 3) := by decide +kernel
theorem d_H_goOn_4 : decode me_H_goOn.2.1 4 = .ok (.astore_n 2, 1) := by decide +kernel
theorem d_H_goOn_5 : decode me_H_goOn.2.1 5 = .ok (.aload_n 0, 1) := by decide +kernel
theorem d_H_goOn_6 : decode me_H_goOn.2.1 6 = .ok (.getfield 22, 3) := by decide +kernel
theorem d_H_goOn_9 : decode me_H_goOn.2.1 9 = .ok (.astore_n 3, 1) := by decide +kernel
theorem d_H_goOn_10 : decode me_H_goOn.2.1 10 = .ok (.aload_n 0, 1) := by decide +kernel
theorem d_H_goOn_11 : decode me_H_goOn.2.1 11 = .ok (.getfield 39, 3) := by decide +kernel
theorem d_H_goOn_14 : decode me_H_goOn.2.1 14 = .ok (.getfield 120, 3) := by decide +kernel
theorem d_H_goOn_17 : decode me_H_goOn.2.1 17 = .ok (.astore 4, 2) := by decide +kernel
theorem d_H_goOn_19 : decode me_H_goOn.2.1 19 = .ok (.aload_n 0, 1) := by decide +kernel
theorem d_H_goOn_20 : decode me_H_goOn.2.1 20 = .ok (.getfield 39, 3) := by decide +kernel
theorem d_H_goOn_23 : decode me_H_goOn.2.1 23 = .ok (.getfield 123, 3) := by decide +kernel
theorem d_H_goOn_26 : decode me_H_goOn.2.1 26 = .ok (.astore 5, 2) := by decide +kernel
theorem d_H_goOn_28 : decode me_H_goOn.2.1 28 = .ok (.aload_n 0, 1) := by decide +kernel
theorem d_H_goOn_29 : decode me_H_goOn.2.1 29 = .ok (.getfield 39, 3) := by decide +kernel
theorem d_H_goOn_32 : decode me_H_goOn.2.1 32 = .ok (.getfield 126, 3) := by decide +kernel
theorem d_H_goOn_35 : decode me_H_goOn.2.1 35 = .ok (.iload_n 1, 1) := by decide +kernel
theorem d_H_goOn_36 : decode me_H_goOn.2.1 36 = .ok (.iconst 1, 1) := by decide +kernel
theorem d_H_goOn_37 : decode me_H_goOn.2.1 37 = .ok (.iadd, 1) := by decide +kernel
theorem d_H_goOn_38 : decode me_H_goOn.2.1 38 = .ok (.iaload, 1) := by decide +kernel
theorem d_H_goOn_39 : decode me_H_goOn.2.1 39 = .ok (.istore 6, 2) := by decide +kernel
theorem d_H_goOn_41 : decode me_H_goOn.2.1 41 = .ok (.aload_n 3, 1) := by decide +kernel
theorem d_H_goOn_42 : decode me_H_goOn.2.1 42 = .ok (.iconst 0, 1) := by decide +kernel
theorem d_H_goOn_43 : decode me_H_goOn.2.1 43 = .ok (.aload_n 0, 1) := by decide +kernel
theorem d_H_goOn_44 : decode me_H_goOn.2.1 44 = .ok (.getfield 39, 3) := by decide +kernel
theorem d_H_goOn_47 : decode me_H_goOn.2.1 47 = .ok (.getfield 56, 3) := by decide +kernel
theorem d_H_goOn_50 : decode me_H_goOn.2.1 50 = .ok (.lconst 0, 1) := by decide +kernel
theorem d_H_goOn_51 : decode me_H_goOn.2.1 51 = .ok (.invokestatic 129, 3) := by decide +kernel
theorem d_H_goOn_54 : decode me_H_goOn.2.1 54 = .ok (.aload_n 0, 1) := by decide +kernel
theorem d_H_goOn_55 : decode me_H_goOn.2.1 55 = .ok (.getfield 39, 3) := by decide +kernel
theorem d_H_goOn_58 : decode me_H_goOn.2.1 58 = .ok (.getfield 126, 3) := by decide +kernel
theorem d_H_goOn_61 : decode me_H_goOn.2.1 61 = .ok (.iload_n 1, 1) := by decide +kernel
theorem d_H_goOn_62 : decode me_H_goOn.2.1 62 = .ok (.iaload, 1) := by decide +kernel
theorem d_H_goOn_63 : decode me_H_goOn.2.1 63 = .ok (.istore 7, 2) := by decide +kernel
theorem d_H_goOn_65 : decode me_H_goOn.2.1 65 = .ok (.iload 7, 2) := by decide +kernel
theorem d_H_goOn_67 : decode me_H_goOn.2.1 67 = .ok (.iload 6, 2) := by decide +kernel
theorem d_H_goOn_69 : decode me_H_goOn.2.1 69 = .ok (.if_icmp .ge 26, 3) := by decide +kernel
theorem d_H_goOn_72 : decode me_H_goOn.2.1 72 = .ok (.aload_n 3, 1) := by decide +kernel
theorem d_H_goOn_73 : decode me_H_goOn.2.1 73 = .ok (.aload 5, 2) := by decide +kernel
theorem d_H_goOn_75 : decode me_H_goOn.2.1 75 = .ok (.iload 7, 2) := by decide +kernel
theorem d_H_goOn_77 : decode me_H_goOn.2.1 77 = .ok (.iaload, 1) := by decide +kernel
theorem d_H_goOn_78 : decode me_H_goOn.2.1 78 = .ok (.dup2, 1) := by decide +kernel
theorem d_H_goOn_79 : decode me_H_goOn.2.1 79 = .ok (.laload, 1) := by decide +kernel
theorem d_H_goOn_80 : decode me_H_goOn.2.1 80 = .ok (.aload_n 2, 1) := by decide +kernel
theorem d_H_goOn_81 : decode me_H_goOn.2.1 81 = .ok (.aload 4, 2) := by decide +kernel
theorem d_H_goOn_83 : decode me_H_goOn.2.1 83 = .ok (.iload 7, 2) := by decide +kernel
theorem d_H_goOn_85 : decode me_H_goOn.2.1 85 = .ok (.iaload, 1) := by decide +kernel
theorem d_H_goOn_86 : decode me_H_goOn.2.1 86 = .ok (.laload, 1) := by decide +kernel
theorem d_H_goOn_87 : decode me_H_goOn.2.1 87 = .ok (.ladd, 1) := by decide +kernel
theorem d_H_goOn_88 : decode me_H_goOn.2.1 88 = .ok (.lastore, 1) := by decide +kernel
theorem d_H_goOn_89 : decode me_H_goOn.2.1 89 = .ok (.iinc 7 1, 3) := by decide +kernel
theorem d_H_goOn_92 : decode me_H_goOn.2.1 92 = .ok (.goto (-27), 3) := by decide +kernel
theorem d_H_goOn_95 : decode me_H_goOn.2.1 95 = .ok (.aload_n 0, 1) := by decide +kernel
theorem d_H_goOn_96 : decode me_H_goOn.2.1 96 = .ok (.aload_n 3, 1) := by decide +kernel
theorem d_H_goOn_97 : decode me_H_goOn.2.1 97 = .ok (.putfield 19, 3) := by decide +kernel
theorem d_H_goOn_100 : decode me_H_goOn.2.1 100 = .ok (.aload_n 0, 1) := by decide +kernel
theorem d_H_goOn_101 : decode me_H_goOn.2.1 101 = .ok (.aload_n 2, 1) := by decide +kernel
theorem d_H_goOn_102 : decode me_H_goOn.2.1 102 = .ok (.putfield 22, 3) := by decide +kernel
theorem d_H_goOn_105 : decode me_H_goOn.2.1 105 = .ok (.return_, 1) := by decide +kernel
abbrev G_H_goOn_0 (l : Launch) (v : gs_V) (n : Nat) (post : gs_S → Prop) (σ : gs_S) (x1 : Int32) : Prop := gG l v lyC 42 me_H_goOn n (qV v lyC 42 post) 0 [(0, .ref (v.2.2 37)), (1, .int x1)] [] σ
abbrev G_H_goOn_65 (l : Launch) (v : gs_V) (n : Nat) (post : gs_S → Prop) (σ : gs_S) (x2 : Nat) (x3 : Nat) (x6 : Int32) (x7 : Int32) : Prop := gG l v lyC 42 me_H_goOn n (qV v lyC 42 post) 65 [(0, .ref (v.2.2 37)), (2, .ref (v.2.2 x2)), (3, .ref (v.2.2 x3)), (4, .ref (v.2.2 7)), (5, .ref (v.2.2 8)), (6, .int x6), (7, .int x7)] [] σ
set_option maxRecDepth 20000 in
set_option maxHeartbeats 1000000 in
theorem T_H_goOn_0 {l : Launch} {v : gs_V} {n : Nat} {post : gs_S → Prop} {σ : gs_S} {x1 : Int32} (h : vp_in (x1 + 1) 5 ∧ gM l v lyC 42 me_Y_fillR n [.ref (v.2.2 (σ.2.2 37 5)), .int 0, .int (σ.1 4 9), .long 0] σ (qV v lyC 42 (fun σ2 => vp_in x1 5 ∧ G_H_goOn_65 l v n post σ2 (σ.2.2 37 4) (σ.2.2 37 5) (σ.1 9 ((x1 + 1).toNatClampNeg)) (σ2.1 9 x1.toNatClampNeg)))) : G_H_goOn_0 l v n post σ x1 := by
  refine g_aload_n d_H_goOn_0 0 rfl rfl ?_
  refine g_getV (x := .ref (v.2.2 (σ.2.2 37 4))) d_H_goOn_1 fl_H_19 (by decide) rfl rfl rfl ?_
  refine g_astore_n (L' := [(2, .ref (v.2.2 (σ.2.2 37 4))), (0, .ref (v.2.2 37)), (1, .int x1)]) d_H_goOn_4 rfl (by decide) rfl ?_
  refine g_aload_n d_H_goOn_5 1 rfl rfl ?_
  refine g_getV (x := .ref (v.2.2 (σ.2.2 37 5))) d_H_goOn_6 fl_H_22 (by decide) rfl rfl rfl ?_
  refine g_astore_n (L' := [(3, .ref (v.2.2 (σ.2.2 37 5))), (2, .ref (v.2.2 (σ.2.2 37 4))), (0, .ref (v.2.2 37)), (1, .int x1)]) d_H_goOn_9 rfl (by decide) rfl ?_
  refine g_aload_n d_H_goOn_10 2 rfl rfl ?_
  refine g_getV (x := .ref (v.2.2 4)) d_H_goOn_11 fl_H_39 (by decide) rfl rfl rfl ?_
  refine g_getV (x := .ref (v.2.2 7)) d_H_goOn_14 fl_H_120 (by decide) rfl rfl rfl ?_
  refine g_astore (L' := [(4, .ref (v.2.2 7)), (3, .ref (v.2.2 (σ.2.2 37 5))), (2, .ref (v.2.2 (σ.2.2 37 4))), (0, .ref (v.2.2 37)), (1, .int x1)]) d_H_goOn_17 (by decide) rfl ?_
  refine g_aload_n d_H_goOn_19 3 rfl rfl ?_
  refine g_getV (x := .ref (v.2.2 4)) d_H_goOn_20 fl_H_39 (by decide) rfl rfl rfl ?_
  refine g_getV (x := .ref (v.2.2 8)) d_H_goOn_23 fl_H_123 (by decide) rfl rfl rfl ?_
  refine g_astore (L' := [(5, .ref (v.2.2 8)), (4, .ref (v.2.2 7)), (3, .ref (v.2.2 (σ.2.2 37 5))), (2, .ref (v.2.2 (σ.2.2 37 4))), (0, .ref (v.2.2 37)), (1, .int x1)]) d_H_goOn_26 (by decide) rfl ?_
  refine g_aload_n d_H_goOn_28 4 rfl rfl ?_
  refine g_getV (x := .ref (v.2.2 4)) d_H_goOn_29 fl_H_39 (by decide) rfl rfl rfl ?_
  refine g_getV (x := .ref (v.2.2 9)) d_H_goOn_32 fl_H_126 (by decide) rfl rfl rfl ?_
  refine g_iload_n d_H_goOn_35 5 rfl rfl ?_
  refine g_iconst d_H_goOn_36 (x := 1) (by decide) ?_
  refine g_iadd d_H_goOn_37 ?_
  have hi1 := h.1
  have h := h.2
  refine g_iald (x := σ.1 9 ((x1 + 1).toNatClampNeg)) d_H_goOn_38 (by decide) rfl hi1 rfl ?_
  refine g_istore (L' := [(6, .int (σ.1 9 ((x1 + 1).toNatClampNeg))), (5, .ref (v.2.2 8)), (4, .ref (v.2.2 7)), (3, .ref (v.2.2 (σ.2.2 37 5))), (2, .ref (v.2.2 (σ.2.2 37 4))), (0, .ref (v.2.2 37)), (1, .int x1)]) d_H_goOn_39 (by decide) rfl ?_
  refine g_aload_n d_H_goOn_41 3 rfl rfl ?_
  refine g_iconst d_H_goOn_42 (x := 0) (by decide) ?_
  refine g_aload_n d_H_goOn_43 5 rfl rfl ?_
  refine g_getV (x := .ref (v.2.2 4)) d_H_goOn_44 fl_H_39 (by decide) rfl rfl rfl ?_
  refine g_getV (x := .int (σ.1 4 9)) d_H_goOn_47 fl_H_56 (by decide) rfl rfl rfl ?_
  refine g_lconst d_H_goOn_50 (x := 0) (by decide) ?_
  refine g_callSv (av := [.ref (v.2.2 (σ.2.2 37 5)), .int 0, .int (σ.1 4 9), .long 0]) (rest := []) d_H_goOn_51 Y_Y_fillR lk_H_129 I_Y_fillR rfl (Nat.le_of_ble_eq_true rfl) rfl h (fun σ2 h => ?_)
  refine g_aload_n d_H_goOn_54 5 rfl rfl ?_
  refine g_getV (x := .ref (v.2.2 4)) d_H_goOn_55 fl_H_39 (by decide) rfl rfl rfl ?_
  refine g_getV (x := .ref (v.2.2 9)) d_H_goOn_58 fl_H_126 (by decide) rfl rfl rfl ?_
  refine g_iload_n d_H_goOn_61 6 rfl rfl ?_
  have hi3 := h.1
  have h := h.2
  refine g_iald (x := σ2.1 9 x1.toNatClampNeg) d_H_goOn_62 (by decide) rfl hi3 rfl ?_
  refine g_istore (L' := [(7, .int (σ2.1 9 x1.toNatClampNeg)), (6, .int (σ.1 9 ((x1 + 1).toNatClampNeg))), (5, .ref (v.2.2 8)), (4, .ref (v.2.2 7)), (3, .ref (v.2.2 (σ.2.2 37 5))), (2, .ref (v.2.2 (σ.2.2 37 4))), (0, .ref (v.2.2 37)), (1, .int x1)]) d_H_goOn_63 (by decide) rfl ?_
  exact g_sub [6, 5, 4, 3, 2, 1, 0] rfl h
set_option maxRecDepth 20000 in
set_option maxHeartbeats 1000000 in
theorem T_H_goOn_65 {l : Launch} {v : gs_V} {n : Nat} {post : gs_S → Prop} {σ : gs_S} {x2 : Nat} {x3 : Nat} {x6 : Int32} {x7 : Int32} (hx2 : x2 < 42 ∧ lyC x2 = .inl (1, 64, 0)) (hx3 : x3 < 42 ∧ lyC x3 = .inl (1, 64, 0)) (h : ((x6 ≤ x7 → post (gs_pR (gs_pR σ 37 4 x3) 37 5 x2)) ∧ (¬ x6 ≤ x7 → vp_in x7 256 ∧ vp_in (σ.1 8 x7.toNatClampNeg) 64 ∧ vp_in x7 256 ∧ vp_in (σ.1 7 x7.toNatClampNeg) 64 ∧ vp_in (σ.1 8 x7.toNatClampNeg) 64 ∧ G_H_goOn_65 l v n post (gs_pL σ x3 ((σ.1 8 x7.toNatClampNeg).toNatClampNeg) ((σ.2.1 x3 ((σ.1 8 x7.toNatClampNeg).toNatClampNeg)) + (σ.2.1 x2 ((σ.1 7 x7.toNatClampNeg).toNatClampNeg)))) x2 x3 x6 (x7 + 1)))) : G_H_goOn_65 l v n post σ x2 x3 x6 x7 := by
  refine g_iload d_H_goOn_65 6 rfl ?_
  refine g_iload d_H_goOn_67 5 rfl ?_
  refine g_icmp_ge (tgt := 95) d_H_goOn_69 rfl (fun hc => ?_) (fun hc => ?_)
  · have h := h.1 hc
    refine g_aload_n d_H_goOn_95 0 rfl rfl ?_
    refine g_aload_n d_H_goOn_96 2 rfl rfl ?_
    refine g_putR d_H_goOn_97 fp_H_19 (by decide) rfl rfl ?_
    refine g_aload_n d_H_goOn_100 0 rfl rfl ?_
    refine g_aload_n d_H_goOn_101 1 rfl rfl ?_
    refine g_putR d_H_goOn_102 fp_H_22 (by decide) rfl rfl ?_
    exact g_vret d_H_goOn_105 rfl h
  · have h := h.2 hc
    refine g_aload_n d_H_goOn_72 2 rfl rfl ?_
    refine g_aload d_H_goOn_73 4 rfl ?_
    refine g_iload d_H_goOn_75 6 rfl ?_
    have hi1 := h.1
    have h := h.2
    refine g_iald (x := σ.1 8 x7.toNatClampNeg) d_H_goOn_77 (by decide) rfl hi1 rfl ?_
    refine g_dup2_11 d_H_goOn_78 rfl rfl ?_
    have hi2 := h.1
    have h := h.2
    refine g_lald (x := σ.2.1 x3 ((σ.1 8 x7.toNatClampNeg).toNatClampNeg)) d_H_goOn_79 hx3.1 hx3.2 hi2 rfl ?_
    refine g_aload_n d_H_goOn_80 1 rfl rfl ?_
    refine g_aload d_H_goOn_81 3 rfl ?_
    refine g_iload d_H_goOn_83 6 rfl ?_
    have hi3 := h.1
    have h := h.2
    refine g_iald (x := σ.1 7 x7.toNatClampNeg) d_H_goOn_85 (by decide) rfl hi3 rfl ?_
    have hi4 := h.1
    have h := h.2
    refine g_lald (x := σ.2.1 x2 ((σ.1 7 x7.toNatClampNeg).toNatClampNeg)) d_H_goOn_86 hx2.1 hx2.2 hi4 rfl ?_
    refine g_ladd d_H_goOn_87 ?_
    have hi5 := h.1
    have h := h.2
    refine g_last d_H_goOn_88 hx3.1 hx3.2 hi5 ?_
    refine g_iinc (L' := [(7, .int (x7 + 1)), (0, .ref (v.2.2 37)), (2, .ref (v.2.2 x2)), (3, .ref (v.2.2 x3)), (4, .ref (v.2.2 7)), (5, .ref (v.2.2 8)), (6, .int x6)]) d_H_goOn_89 6 rfl (by rfl) (by decide) rfl ?_
    refine g_goto (tgt := 65) d_H_goOn_92 rfl ?_
    exact g_sub [1, 2, 3, 4, 5, 6, 0] rfl h
theorem E_H_goOn {l : Launch} {v : gs_V} {n : Nat} {post : gs_S → Prop} {σ : gs_S} {x1 : Int32} (h : G_H_goOn_0 l v n post σ x1) : gM l v lyC 42 me_H_goOn (n + 1) [.ref (v.2.2 37), .int x1] σ (qV v lyC 42 post) := gM_of (by decide +kernel) (Nat.le_of_ble_eq_true rfl) h
/-! LineRules$Past.leadingInto -/
theorem d_H_leadingInto_0 : decode me_H_leadingInto.2.1 0 = .ok (.lconst 0, 1) := by decide +kernel
theorem d_H_leadingInto_1 : decode me_H_leadingInto.2.1 1 = .ok (.lstore 4, 2) := by decide +kernel
theorem d_H_leadingInto_3 : decode me_H_leadingInto.2.1 3 = .ok (.iconst 0, 1) := by decide +kernel
theorem d_H_leadingInto_4 : decode me_H_leadingInto.2.1 4 = .ok (.istore 6, 2) := by decide +kernel
theorem d_H_leadingInto_6 : decode me_H_leadingInto.2.1 6 = .ok (.iload 6, 2) := by decide +kernel
theorem d_H_leadingInto_8 : decode me_H_leadingInto.2.1 8 = .ok (.aload_n 0, 1) := by decide +kernel
theorem d_H_leadingInto_9 : decode me_H_leadingInto.2.1 9 = .ok (.getfield 39, 3) := by decide +kernel
theorem d_H_leadingInto_12 : decode me_H_leadingInto.2.1 12 = .ok (.getfield 56, 3) := by decide +kernel
theorem d_H_leadingInto_15 : decode me_H_leadingInto.2.1 15 = .ok (.if_icmp .ge 41, 3) := by decide +kernel
theorem d_H_leadingInto_18 : decode me_H_leadingInto.2.1 18 = .ok (.lload_n 1, 1) := by decide +kernel
theorem d_H_leadingInto_19 : decode me_H_leadingInto.2.1 19 = .ok (.lconst 0, 1) := by decide +kernel
theorem d_H_leadingInto_20 : decode me_H_leadingInto.2.1 20 = .ok (.lcmp, 1) := by decide +kernel
theorem d_H_leadingInto_21 : decode me_H_leadingInto.2.1 21 = .ok (.ifCond .eq 35, 3) := by decide +kernel
theorem d_H_leadingInto_24 : decode me_H_leadingInto.2.1 24 = .ok (.aload_n 0, 1) := by decide +kernel
theorem d_H_leadingInto_25 : decode me_H_leadingInto.2.1 25 = .ok (.getfield 39, 3) := by decide +kernel
theorem d_H_leadingInto_28 : decode me_H_leadingInto.2.1 28 = .ok (.iload 6, 2) := by decide +kernel
theorem d_H_leadingInto_30 : decode me_H_leadingInto.2.1 30 = .ok (.iload_n 3, 1) := by decide +kernel
theorem d_H_leadingInto_31 : decode me_H_leadingInto.2.1 31 = .ok (.invokevirtual 91, 3) := by decide +kernel
theorem d_H_leadingInto_34 : decode me_H_leadingInto.2.1 34 = .ok (.lload_n 1, 1) := by decide +kernel
theorem d_H_leadingInto_35 : decode me_H_leadingInto.2.1 35 = .ok (.land, 1) := by decide +kernel
theorem d_H_leadingInto_36 : decode me_H_leadingInto.2.1 36 = .ok (.lconst 0, 1) := by decide +kernel
theorem d_H_leadingInto_37 : decode me_H_leadingInto.2.1 37 = .ok (.lcmp, 1) := by decide +kernel
theorem d_H_leadingInto_38 : decode me_H_leadingInto.2.1 38 = .ok (.ifCond .eq 12, 3) := by decide +kernel
theorem d_H_leadingInto_41 : decode me_H_leadingInto.2.1 41 = .ok (.lload 4, 2) := by decide +kernel
theorem d_H_leadingInto_43 : decode me_H_leadingInto.2.1 43 = .ok (.lconst 1, 1) := by decide +kernel
theorem d_H_leadingInto_44 : decode me_H_leadingInto.2.1 44 = .ok (.iload 6, 2) := by decide +kernel
theorem d_H_leadingInto_46 : decode me_H_leadingInto.2.1 46 = .ok (.lshl, 1) := by decide +kernel
theorem d_H_leadingInto_47 : decode me_H_leadingInto.2.1 47 = .ok (.lor, 1) := by decide +kernel
theorem d_H_leadingInto_48 : decode me_H_leadingInto.2.1 48 = .ok (.lstore 4, 2) := by decide +kernel
theorem d_H_leadingInto_50 : decode me_H_leadingInto.2.1 50 = .ok (.iinc 6 1, 3) := by decide +kernel
theorem d_H_leadingInto_53 : decode me_H_leadingInto.2.1 53 = .ok (.goto (-47), 3) := by decide +kernel
theorem d_H_leadingInto_56 : decode me_H_leadingInto.2.1 56 = .ok (.lload 4, 2) := by decide +kernel
theorem d_H_leadingInto_58 : decode me_H_leadingInto.2.1 58 = .ok (.lreturn, 1) := by decide +kernel
abbrev G_H_leadingInto_0 (l : Launch) (v : gs_V) (n : Nat) (post : Int64 → gs_S → Prop) (σ : gs_S) (x1 : Int64) (x3 : Int32) : Prop := gG l v lyC 42 me_H_leadingInto n (qL v lyC 42 post) 0 [(0, .ref (v.2.2 37)), (1, .long x1), (3, .int x3)] [] σ
abbrev G_H_leadingInto_6 (l : Launch) (v : gs_V) (n : Nat) (post : Int64 → gs_S → Prop) (σ : gs_S) (x1 : Int64) (x3 : Int32) (x4 : Int64) (x6 : Int32) : Prop := gG l v lyC 42 me_H_leadingInto n (qL v lyC 42 post) 6 [(0, .ref (v.2.2 37)), (1, .long x1), (3, .int x3), (4, .long x4), (6, .int x6)] [] σ
abbrev G_H_leadingInto_50 (l : Launch) (v : gs_V) (n : Nat) (post : Int64 → gs_S → Prop) (σ : gs_S) (x1 : Int64) (x3 : Int32) (x4 : Int64) (x6 : Int32) : Prop := gG l v lyC 42 me_H_leadingInto n (qL v lyC 42 post) 50 [(0, .ref (v.2.2 37)), (1, .long x1), (3, .int x3), (4, .long x4), (6, .int x6)] [] σ
abbrev G_H_leadingInto_56 (l : Launch) (v : gs_V) (n : Nat) (post : Int64 → gs_S → Prop) (σ : gs_S) (x4 : Int64) : Prop := gG l v lyC 42 me_H_leadingInto n (qL v lyC 42 post) 56 [(4, .long x4)] [] σ
set_option maxRecDepth 20000 in
set_option maxHeartbeats 1000000 in
theorem T_H_leadingInto_0 {l : Launch} {v : gs_V} {n : Nat} {post : Int64 → gs_S → Prop} {σ : gs_S} {x1 : Int64} {x3 : Int32} (h : G_H_leadingInto_6 l v n post σ x1 x3 0 0) : G_H_leadingInto_0 l v n post σ x1 x3 := by
  refine g_lconst d_H_leadingInto_0 (x := 0) (by decide) ?_
  refine g_lstore (L' := [(4, .long 0), (0, .ref (v.2.2 37)), (1, .long x1), (3, .int x3)]) d_H_leadingInto_1 (by decide) rfl ?_
  refine g_iconst d_H_leadingInto_3 (x := 0) (by decide) ?_
  refine g_istore (L' := [(6, .int 0), (4, .long 0), (0, .ref (v.2.2 37)), (1, .long x1), (3, .int x3)]) d_H_leadingInto_4 (by decide) rfl ?_
  exact g_sub [2, 3, 4, 1, 0] rfl h
set_option maxRecDepth 20000 in
set_option maxHeartbeats 1000000 in
theorem T_H_leadingInto_6 {l : Launch} {v : gs_V} {n : Nat} {post : Int64 → gs_S → Prop} {σ : gs_S} {x1 : Int64} {x3 : Int32} {x4 : Int64} {x6 : Int32} (h : (((σ.1 4 9) ≤ x6 → G_H_leadingInto_56 l v n post σ x4) ∧ (¬ (σ.1 4 9) ≤ x6 → ((x1 = 0 → G_H_leadingInto_56 l v n post σ x4) ∧ (¬ x1 = 0 → gM l v lyC 42 me_R_behind n [.ref (v.2.2 4), .int x6, .int x3] σ (qL v lyC 42 (fun r1 σ1 => (((r1 &&& x1) = 0 → G_H_leadingInto_50 l v n post σ1 x1 x3 x4 x6) ∧ (¬ (r1 &&& x1) = 0 → G_H_leadingInto_50 l v n post σ1 x1 x3 (x4 ||| (jS 1 x6)) x6))))))))) : G_H_leadingInto_6 l v n post σ x1 x3 x4 x6 := by
  refine g_iload d_H_leadingInto_6 4 rfl ?_
  refine g_aload_n d_H_leadingInto_8 0 rfl rfl ?_
  refine g_getV (x := .ref (v.2.2 4)) d_H_leadingInto_9 fl_H_39 (by decide) rfl rfl rfl ?_
  refine g_getV (x := .int (σ.1 4 9)) d_H_leadingInto_12 fl_H_56 (by decide) rfl rfl rfl ?_
  refine g_icmp_ge (tgt := 56) d_H_leadingInto_15 rfl (fun hc => ?_) (fun hc => ?_)
  · have h := h.1 hc
    exact g_sub [3] rfl h
  · have h := h.2 hc
    refine g_lload_n d_H_leadingInto_18 1 rfl rfl ?_
    refine g_lconst d_H_leadingInto_19 (x := 0) (by decide) ?_
    refine g_lcmp_eq (tgt := 56) d_H_leadingInto_20 d_H_leadingInto_21 rfl (fun hc => ?_) (fun hc => ?_)
    · have h := h.1 hc
      exact g_sub [3] rfl h
    · have h := h.2 hc
      refine g_aload_n d_H_leadingInto_24 0 rfl rfl ?_
      refine g_getV (x := .ref (v.2.2 4)) d_H_leadingInto_25 fl_H_39 (by decide) rfl rfl rfl ?_
      refine g_iload d_H_leadingInto_28 4 rfl ?_
      refine g_iload_n d_H_leadingInto_30 2 rfl rfl ?_
      refine g_callVl (av := [.int x6, .int x3]) (rest := []) d_H_leadingInto_31 Y_R_behind lk_H_91 (by decide) rfl rfl I_R_behind rfl (Nat.le_of_ble_eq_true rfl) rfl h (fun r1 σ1 h => ?_)
      refine g_lload_n d_H_leadingInto_34 1 rfl rfl ?_
      refine g_land d_H_leadingInto_35 ?_
      refine g_lconst d_H_leadingInto_36 (x := 0) (by decide) ?_
      refine g_lcmp_eq (tgt := 50) d_H_leadingInto_37 d_H_leadingInto_38 rfl (fun hc => ?_) (fun hc => ?_)
      · have h := h.1 hc
        exact h
      · have h := h.2 hc
        refine g_lload d_H_leadingInto_41 3 rfl ?_
        refine g_lconst d_H_leadingInto_43 (x := 1) (by decide) ?_
        refine g_iload d_H_leadingInto_44 4 rfl ?_
        refine g_lshl d_H_leadingInto_46 ?_
        refine g_lor d_H_leadingInto_47 ?_
        refine g_lstore (L' := [(4, .long (x4 ||| (jS 1 x6))), (0, .ref (v.2.2 37)), (1, .long x1), (3, .int x3), (6, .int x6)]) d_H_leadingInto_48 (by decide) rfl ?_
        exact g_sub [1, 2, 3, 0, 4] rfl h
set_option maxRecDepth 20000 in
set_option maxHeartbeats 1000000 in
theorem T_H_leadingInto_50 {l : Launch} {v : gs_V} {n : Nat} {post : Int64 → gs_S → Prop} {σ : gs_S} {x1 : Int64} {x3 : Int32} {x4 : Int64} {x6 : Int32} (h : G_H_leadingInto_6 l v n post σ x1 x3 x4 (x6 + 1)) : G_H_leadingInto_50 l v n post σ x1 x3 x4 x6 := by
  refine g_iinc (L' := [(6, .int (x6 + 1)), (0, .ref (v.2.2 37)), (1, .long x1), (3, .int x3), (4, .long x4)]) d_H_leadingInto_50 4 rfl (by rfl) (by decide) rfl ?_
  refine g_goto (tgt := 6) d_H_leadingInto_53 rfl ?_
  exact g_sub [1, 2, 3, 4, 0] rfl h
set_option maxRecDepth 20000 in
set_option maxHeartbeats 1000000 in
theorem T_H_leadingInto_56 {l : Launch} {v : gs_V} {n : Nat} {post : Int64 → gs_S → Prop} {σ : gs_S} {x4 : Int64} (h : post x4 σ) : G_H_leadingInto_56 l v n post σ x4 := by
  refine g_lload d_H_leadingInto_56 0 rfl ?_
  exact g_lret d_H_leadingInto_58 rfl h
theorem E_H_leadingInto {l : Launch} {v : gs_V} {n : Nat} {post : Int64 → gs_S → Prop} {σ : gs_S} {x1 : Int64} {x3 : Int32} (h : G_H_leadingInto_0 l v n post σ x1 x3) : gM l v lyC 42 me_H_leadingInto (n + 1) [.ref (v.2.2 37), .long x1, .int x3] σ (qL v lyC 42 post) := gM_of (by decide +kernel) (Nat.le_of_ble_eq_true rfl) h
/-! LineRules$Past.leastCell -/
theorem d_H_leastCell_0 : decode me_H_leastCell.2.1 0 = .ok (.iconst 0, 1) := by decide +kernel
theorem d_H_leastCell_1 : decode me_H_leastCell.2.1 1 = .ok (.istore_n 3, 1) := by decide +kernel
theorem d_H_leastCell_2 : decode me_H_leastCell.2.1 2 = .ok (.iload_n 3, 1) := by decide +kernel
theorem d_H_leastCell_3 : decode me_H_leastCell.2.1 3 = .ok (.aload_n 0, 1) := by decide +kernel
theorem d_H_leastCell_4 : decode me_H_leastCell.2.1 4 = .ok (.getfield 39, 3) := by decide +kernel
theorem d_H_leastCell_7 : decode me_H_leastCell.2.1 7 = .ok (.getfield 102, 3) := by decide +kernel
theorem d_H_leastCell_10 : decode me_H_leastCell.2.1 10 = .ok (.if_icmp .ge 79, 3) := by decide +kernel
theorem d_H_leastCell_13 : decode me_H_leastCell.2.1 13 = .ok (.iload_n 1, 1) := by decide +kernel
theorem d_H_leastCell_14 : decode me_H_leastCell.2.1 14 = .ok (.aload_n 0, 1) := by decide +kernel
theorem d_H_leastCell_15 : decode me_H_leastCell.2.1 15 = .ok (.getfield 39, 3) := by decide +kernel
theorem d_H_leastCell_18 : decode me_H_leastCell.2.1 18 = .ok (.getfield 102, 3) := by decide +kernel
theorem d_H_leastCell_21 : decode me_H_leastCell.2.1 21 = .ok (.imul, 1) := by decide +kernel
theorem d_H_leastCell_22 : decode me_H_leastCell.2.1 22 = .ok (.iload_n 3, 1) := by decide +kernel
theorem d_H_leastCell_23 : decode me_H_leastCell.2.1 23 = .ok (.iadd, 1) := by decide +kernel
theorem d_H_leastCell_24 : decode me_H_leastCell.2.1 24 = .ok (.istore 4, 2) := by decide +kernel
theorem d_H_leastCell_26 : decode me_H_leastCell.2.1 26 = .ok (.aload_n 0, 1) := by decide +kernel
theorem d_H_leastCell_27 : decode me_H_leastCell.2.1 27 = .ok (.getfield 9, 3) := by decide +kernel
theorem d_H_leastCell_30 : decode me_H_leastCell.2.1 30 = .ok (.iload_n 2, 1) := by decide +kernel
theorem d_H_leastCell_31 : decode me_H_leastCell.2.1 31 = .ok (.iconst 1, 1) := by decide +kernel
theorem d_H_leastCell_32 : decode me_H_leastCell.2.1 32 = .ok (.iadd, 1) := by decide +kernel
theorem d_H_leastCell_33 : decode me_H_leastCell.2.1 33 = .ok (.laload, 1) := by decide +kernel
theorem d_H_leastCell_34 : decode me_H_leastCell.2.1 34 = .ok (.aload_n 0, 1) := by decide +kernel
theorem d_H_leastCell_35 : decode me_H_leastCell.2.1 35 = .ok (.getfield 39, 3) := by decide +kernel
theorem d_H_leastCell_38 : decode me_H_leastCell.2.1 38 = .ok (.iload 4, 2) := by decide +kernel
theorem d_H_leastCell_40 : decode me_H_leastCell.2.1 40 = .ok (.invokevirtual 105, 3) := by decide +kernel
theorem d_H_leastCell_43 : decode me_H_leastCell.2.1 43 = .ok (.lushr, 1) := by decide +kernel
theorem d_H_leastCell_44 : decode me_H_leastCell.2.1 44 = .ok (.lconst 1, 1) := by decide +kernel
theorem d_H_leastCell_45 : decode me_H_leastCell.2.1 45 = .ok (.land, 1) := by decide +kernel
theorem d_H_leastCell_46 : decode me_H_leastCell.2.1 46 = .ok (.lconst 0, 1) := by decide +kernel
theorem d_H_leastCell_47 : decode me_H_leastCell.2.1 47 = .ok (.lcmp, 1) := by decide +kernel
theorem d_H_leastCell_48 : decode me_H_leastCell.2.1 48 = .ok (.ifCond .eq 7, 3) := by decide +kernel
theorem d_H_leastCell_51 : decode me_H_leastCell.2.1 51 = .ok (.iconst 1, 1) := by decide +kernel
theorem d_H_leastCell_52 : decode me_H_leastCell.2.1 52 = .ok (.goto 4, 3) := by decide +kernel
theorem d_H_leastCell_55 : decode me_H_leastCell.2.1 55 = .ok (.iconst 0, 1) := by decide +kernel
theorem d_H_leastCell_56 : decode me_H_leastCell.2.1 56 = .ok (.istore 5, 2) := by decide +kernel
theorem d_H_leastCell_58 : decode me_H_leastCell.2.1 58 = .ok (.iload 5, 2) := by decide +kernel
theorem d_H_leastCell_60 : decode me_H_leastCell.2.1 60 = .ok (.ifCond .eq 23, 3) := by decide +kernel
theorem d_H_leastCell_63 : decode me_H_leastCell.2.1 63 = .ok (.aload_n 0, 1) := by decide +kernel
theorem d_H_leastCell_64 : decode me_H_leastCell.2.1 64 = .ok (.getfield 39, 3) := by decide +kernel
theorem d_H_leastCell_67 : decode me_H_leastCell.2.1 67 = .ok (.getfield 108, 3) := by decide +kernel
theorem d_H_leastCell_70 : decode me_H_leastCell.2.1 70 = .ok (.iload 4, 2) := by decide +kernel
theorem d_H_leastCell_72 : decode me_H_leastCell.2.1 72 = .ok (.iaload, 1) := by decide +kernel
theorem d_H_leastCell_73 : decode me_H_leastCell.2.1 73 = .ok (.aload_n 0, 1) := by decide +kernel
theorem d_H_leastCell_74 : decode me_H_leastCell.2.1 74 = .ok (.iload_n 2, 1) := by decide +kernel
theorem d_H_leastCell_75 : decode me_H_leastCell.2.1 75 = .ok (.invokevirtual 83, 3) := by decide +kernel
theorem d_H_leastCell_78 : decode me_H_leastCell.2.1 78 = .ok (.if_icmp .ne 5, 3) := by decide +kernel
theorem d_H_leastCell_81 : decode me_H_leastCell.2.1 81 = .ok (.iload_n 3, 1) := by decide +kernel
theorem d_H_leastCell_82 : decode me_H_leastCell.2.1 82 = .ok (.ireturn, 1) := by decide +kernel
theorem d_H_leastCell_83 : decode me_H_leastCell.2.1 83 = .ok (.iinc 3 1, 3) := by decide +kernel
theorem d_H_leastCell_86 : decode me_H_leastCell.2.1 86 = .ok (.goto (-84), 3) := by decide +kernel
theorem d_H_leastCell_89 : decode me_H_leastCell.2.1 89 = .ok (.iconst 0, 1) := by decide +kernel
theorem d_H_leastCell_90 : decode me_H_leastCell.2.1 90 = .ok (.ireturn, 1) := by decide +kernel
abbrev G_H_leastCell_0 (l : Launch) (v : gs_V) (n : Nat) (post : Int32 → gs_S → Prop) (σ : gs_S) (x1 : Int32) (x2 : Int32) : Prop := gG l v lyC 42 me_H_leastCell n (qI v lyC 42 post) 0 [(0, .ref (v.2.2 37)), (1, .int x1), (2, .int x2)] [] σ
abbrev G_H_leastCell_2 (l : Launch) (v : gs_V) (n : Nat) (post : Int32 → gs_S → Prop) (σ : gs_S) (x1 : Int32) (x2 : Int32) (x3 : Int32) : Prop := gG l v lyC 42 me_H_leastCell n (qI v lyC 42 post) 2 [(0, .ref (v.2.2 37)), (1, .int x1), (2, .int x2), (3, .int x3)] [] σ
abbrev G_H_leastCell_56 (l : Launch) (v : gs_V) (n : Nat) (post : Int32 → gs_S → Prop) (σ : gs_S) (x1 : Int32) (x2 : Int32) (x3 : Int32) (x4 : Int32) (s0 : Int32) : Prop := gG l v lyC 42 me_H_leastCell n (qI v lyC 42 post) 56 [(0, .ref (v.2.2 37)), (1, .int x1), (2, .int x2), (3, .int x3), (4, .int x4)] [.int s0] σ
abbrev G_H_leastCell_83 (l : Launch) (v : gs_V) (n : Nat) (post : Int32 → gs_S → Prop) (σ : gs_S) (x1 : Int32) (x2 : Int32) (x3 : Int32) : Prop := gG l v lyC 42 me_H_leastCell n (qI v lyC 42 post) 83 [(0, .ref (v.2.2 37)), (1, .int x1), (2, .int x2), (3, .int x3)] [] σ
set_option maxRecDepth 20000 in
set_option maxHeartbeats 1000000 in
theorem T_H_leastCell_0 {l : Launch} {v : gs_V} {n : Nat} {post : Int32 → gs_S → Prop} {σ : gs_S} {x1 : Int32} {x2 : Int32} (h : G_H_leastCell_2 l v n post σ x1 x2 0) : G_H_leastCell_0 l v n post σ x1 x2 := by
  refine g_iconst d_H_leastCell_0 (x := 0) (by decide) ?_
  refine g_istore_n (L' := [(3, .int 0), (0, .ref (v.2.2 37)), (1, .int x1), (2, .int x2)]) d_H_leastCell_1 rfl (by decide) rfl ?_
  exact g_sub [1, 2, 3, 0] rfl h
set_option maxRecDepth 20000 in
set_option maxHeartbeats 1000000 in
theorem T_H_leastCell_2 {l : Launch} {v : gs_V} {n : Nat} {post : Int32 → gs_S → Prop} {σ : gs_S} {x1 : Int32} {x2 : Int32} {x3 : Int32} (h : (((σ.1 4 6) ≤ x3 → post 0 σ) ∧ (¬ (σ.1 4 6) ≤ x3 → vp_in (x2 + 1) 65 ∧ gM l v lyC 42 me_R_end n [.ref (v.2.2 4), .int ((x1 * (σ.1 4 6)) + x3)] σ (qI v lyC 42 (fun r2 σ2 => ((((jU (σ.2.1 38 ((x2 + 1).toNatClampNeg)) r2) &&& 1) = 0 → G_H_leastCell_56 l v n post σ2 x1 x2 x3 ((x1 * (σ.1 4 6)) + x3) 0) ∧ (¬ ((jU (σ.2.1 38 ((x2 + 1).toNatClampNeg)) r2) &&& 1) = 0 → G_H_leastCell_56 l v n post σ2 x1 x2 x3 ((x1 * (σ.1 4 6)) + x3) 1))))))) : G_H_leastCell_2 l v n post σ x1 x2 x3 := by
  refine g_iload_n d_H_leastCell_2 3 rfl rfl ?_
  refine g_aload_n d_H_leastCell_3 0 rfl rfl ?_
  refine g_getV (x := .ref (v.2.2 4)) d_H_leastCell_4 fl_H_39 (by decide) rfl rfl rfl ?_
  refine g_getV (x := .int (σ.1 4 6)) d_H_leastCell_7 fl_H_102 (by decide) rfl rfl rfl ?_
  refine g_icmp_ge (tgt := 89) d_H_leastCell_10 rfl (fun hc => ?_) (fun hc => ?_)
  · have h := h.1 hc
    refine g_iconst d_H_leastCell_89 (x := 0) (by decide) ?_
    exact g_iret d_H_leastCell_90 rfl h
  · have h := h.2 hc
    refine g_iload_n d_H_leastCell_13 1 rfl rfl ?_
    refine g_aload_n d_H_leastCell_14 0 rfl rfl ?_
    refine g_getV (x := .ref (v.2.2 4)) d_H_leastCell_15 fl_H_39 (by decide) rfl rfl rfl ?_
    refine g_getV (x := .int (σ.1 4 6)) d_H_leastCell_18 fl_H_102 (by decide) rfl rfl rfl ?_
    refine g_imul d_H_leastCell_21 ?_
    refine g_iload_n d_H_leastCell_22 3 rfl rfl ?_
    refine g_iadd d_H_leastCell_23 ?_
    refine g_istore (L' := [(4, .int ((x1 * (σ.1 4 6)) + x3)), (0, .ref (v.2.2 37)), (1, .int x1), (2, .int x2), (3, .int x3)]) d_H_leastCell_24 (by decide) rfl ?_
    refine g_aload_n d_H_leastCell_26 1 rfl rfl ?_
    refine g_getV (x := .ref (v.2.2 38)) d_H_leastCell_27 fl_H_9 (by decide) rfl rfl rfl ?_
    refine g_iload_n d_H_leastCell_30 3 rfl rfl ?_
    refine g_iconst d_H_leastCell_31 (x := 1) (by decide) ?_
    refine g_iadd d_H_leastCell_32 ?_
    have hi1 := h.1
    have h := h.2
    refine g_lald (x := σ.2.1 38 ((x2 + 1).toNatClampNeg)) d_H_leastCell_33 (by decide) rfl hi1 rfl ?_
    refine g_aload_n d_H_leastCell_34 1 rfl rfl ?_
    refine g_getV (x := .ref (v.2.2 4)) d_H_leastCell_35 fl_H_39 (by decide) rfl rfl rfl ?_
    refine g_iload d_H_leastCell_38 0 rfl ?_
    refine g_callVi (av := [.int ((x1 * (σ.1 4 6)) + x3)]) (rest := [.long (σ.2.1 38 ((x2 + 1).toNatClampNeg))]) d_H_leastCell_40 Y_R_end lk_H_105 (by decide) rfl rfl I_R_end rfl (Nat.le_of_ble_eq_true rfl) rfl h (fun r2 σ2 h => ?_)
    refine g_lushr d_H_leastCell_43 ?_
    refine g_lconst d_H_leastCell_44 (x := 1) (by decide) ?_
    refine g_land d_H_leastCell_45 ?_
    refine g_lconst d_H_leastCell_46 (x := 0) (by decide) ?_
    refine g_lcmp_eq (tgt := 55) d_H_leastCell_47 d_H_leastCell_48 rfl (fun hc => ?_) (fun hc => ?_)
    · have h := h.1 hc
      refine g_iconst d_H_leastCell_55 (x := 0) (by decide) ?_
      exact g_sub [1, 2, 3, 4, 0] rfl h
    · have h := h.2 hc
      refine g_iconst d_H_leastCell_51 (x := 1) (by decide) ?_
      refine g_goto (tgt := 56) d_H_leastCell_52 rfl ?_
      exact g_sub [1, 2, 3, 4, 0] rfl h
set_option maxRecDepth 20000 in
set_option maxHeartbeats 1000000 in
theorem T_H_leastCell_56 {l : Launch} {v : gs_V} {n : Nat} {post : Int32 → gs_S → Prop} {σ : gs_S} {x1 : Int32} {x2 : Int32} {x3 : Int32} {x4 : Int32} {s0 : Int32} (h : ((s0 = 0 → G_H_leastCell_83 l v n post σ x1 x2 x3) ∧ (¬ s0 = 0 → vp_in x4 256 ∧ gM l v lyC 42 me_H_due n [.ref (v.2.2 37), .int x2] σ (qI v lyC 42 (fun r2 σ2 => ((¬ (σ.1 5 x4.toNatClampNeg) = r2 → G_H_leastCell_83 l v n post σ2 x1 x2 x3) ∧ ((σ.1 5 x4.toNatClampNeg) = r2 → post x3 σ2))))))) : G_H_leastCell_56 l v n post σ x1 x2 x3 x4 s0 := by
  refine g_istore (L' := [(5, .int s0), (0, .ref (v.2.2 37)), (1, .int x1), (2, .int x2), (3, .int x3), (4, .int x4)]) d_H_leastCell_56 (by decide) rfl ?_
  refine g_iload d_H_leastCell_58 0 rfl ?_
  refine g_if_eq (tgt := 83) d_H_leastCell_60 rfl (fun hc => ?_) (fun hc => ?_)
  · have h := h.1 hc
    exact g_sub [1, 2, 3, 4] rfl h
  · have h := h.2 hc
    refine g_aload_n d_H_leastCell_63 1 rfl rfl ?_
    refine g_getV (x := .ref (v.2.2 4)) d_H_leastCell_64 fl_H_39 (by decide) rfl rfl rfl ?_
    refine g_getV (x := .ref (v.2.2 5)) d_H_leastCell_67 fl_H_108 (by decide) rfl rfl rfl ?_
    refine g_iload d_H_leastCell_70 5 rfl ?_
    have hi1 := h.1
    have h := h.2
    refine g_iald (x := σ.1 5 x4.toNatClampNeg) d_H_leastCell_72 (by decide) rfl hi1 rfl ?_
    refine g_aload_n d_H_leastCell_73 1 rfl rfl ?_
    refine g_iload_n d_H_leastCell_74 3 rfl rfl ?_
    refine g_callVi (av := [.int x2]) (rest := [.int (σ.1 5 x4.toNatClampNeg)]) d_H_leastCell_75 Y_H_due lk_H_83 (by decide) rfl rfl I_H_due rfl (Nat.le_of_ble_eq_true rfl) rfl h (fun r2 σ2 h => ?_)
    refine g_icmp_ne (tgt := 83) d_H_leastCell_78 rfl (fun hc => ?_) (fun hc => ?_)
    · have h := h.1 hc
      exact g_sub [1, 2, 3, 4] rfl h
    · have h := h.2 hc
      refine g_iload_n d_H_leastCell_81 4 rfl rfl ?_
      exact g_iret d_H_leastCell_82 rfl h
set_option maxRecDepth 20000 in
set_option maxHeartbeats 1000000 in
theorem T_H_leastCell_83 {l : Launch} {v : gs_V} {n : Nat} {post : Int32 → gs_S → Prop} {σ : gs_S} {x1 : Int32} {x2 : Int32} {x3 : Int32} (h : G_H_leastCell_2 l v n post σ x1 x2 (x3 + 1)) : G_H_leastCell_83 l v n post σ x1 x2 x3 := by
  refine g_iinc (L' := [(3, .int (x3 + 1)), (0, .ref (v.2.2 37)), (1, .int x1), (2, .int x2)]) d_H_leastCell_83 3 rfl (by rfl) (by decide) rfl ?_
  refine g_goto (tgt := 2) d_H_leastCell_86 rfl ?_
  exact g_sub [1, 2, 3, 0] rfl h
theorem E_H_leastCell {l : Launch} {v : gs_V} {n : Nat} {post : Int32 → gs_S → Prop} {σ : gs_S} {x1 : Int32} {x2 : Int32} (h : G_H_leastCell_0 l v n post σ x1 x2) : gM l v lyC 42 me_H_leastCell (n + 1) [.ref (v.2.2 37), .int x1, .int x2] σ (qI v lyC 42 post) := gM_of (by decide +kernel) (Nat.le_of_ble_eq_true rfl) h
/-! LineRules$Past.trace -/
theorem d_H_trace_0 : decode me_H_trace.2.1 0 = .ok (.iload_n 1, 1) := by decide +kernel
theorem d_H_trace_1 : decode me_H_trace.2.1 1 = .ok (.istore_n 2, 1) := by decide +kernel
theorem d_H_trace_2 : decode me_H_trace.2.1 2 = .ok (.iconst 0, 1) := by decide +kernel
theorem d_H_trace_3 : decode me_H_trace.2.1 3 = .ok (.istore_n 3, 1) := by decide +kernel
theorem d_H_trace_4 : decode me_H_trace.2.1 4 = .ok (.iload_n 3, 1) := by decide +kernel
theorem d_H_trace_5 : decode me_H_trace.2.1 5 = .ok (.aload_n 0, 1) := by decide +kernel
theorem d_H_trace_6 : decode me_H_trace.2.1 6 = .ok (.getfield 43, 3) := by decide +kernel
theorem d_H_trace_9 : decode me_H_trace.2.1 9 = .ok (.getfield 80, 3) := by decide +kernel
theorem d_H_trace_12 : decode me_H_trace.2.1 12 = .ok (.if_icmp .ge 63, 3) := by decide +kernel
theorem d_H_trace_15 : decode me_H_trace.2.1 15 = .ok (.aload_n 0, 1) := by decide +kernel
theorem d_H_trace_16 : decode me_H_trace.2.1 16 = .ok (.iload_n 2, 1) := by decide +kernel
theorem d_H_trace_17 : decode me_H_trace.2.1 17 = .ok (.iload_n 3, 1) := by decide +kernel
theorem d_H_trace_18 : decode me_H_trace.2.1 18 = .ok (.invokevirtual 95, 3) := by decide +kernel
theorem d_H_trace_21 : decode me_H_trace.2.1 21 = .ok (.istore 4, 2) := by decide +kernel
theorem d_H_trace_23 : decode me_H_trace.2.1 23 = .ok (.aload_n 0, 1) := by decide +kernel
theorem d_H_trace_24 : decode me_H_trace.2.1 24 = .ok (.getfield 15, 3) := by decide +kernel
theorem d_H_trace_27 : decode me_H_trace.2.1 27 = .ok (.iload_n 3, 1) := by decide +kernel
theorem d_H_trace_28 : decode me_H_trace.2.1 28 = .ok (.aload_n 0, 1) := by decide +kernel
theorem d_H_trace_29 : decode me_H_trace.2.1 29 = .ok (.getfield 39, 3) := by decide +kernel
theorem d_H_trace_32 : decode me_H_trace.2.1 32 = .ok (.getfield 99, 3) := by decide +kernel
theorem d_H_trace_35 : decode me_H_trace.2.1 35 = .ok (.iadd, 1) := by decide +kernel
theorem d_H_trace_36 : decode me_H_trace.2.1 36 = .ok (.iconst 1, 1) := by decide +kernel
theorem d_H_trace_37 : decode me_H_trace.2.1 37 = .ok (.isub, 1) := by decide +kernel
theorem d_H_trace_38 : decode me_H_trace.2.1 38 = .ok (.aload_n 0, 1) := by decide +kernel
theorem d_H_trace_39 : decode me_H_trace.2.1 39 = .ok (.getfield 43, 3) := by decide +kernel
theorem d_H_trace_42 : decode me_H_trace.2.1 42 = .ok (.getfield 80, 3) := by decide +kernel
theorem d_H_trace_45 : decode me_H_trace.2.1 45 = .ok (.irem, 1) := by decide +kernel
theorem d_H_trace_46 : decode me_H_trace.2.1 46 = .ok (.iload 4, 2) := by decide +kernel
theorem d_H_trace_48 : decode me_H_trace.2.1 48 = .ok (.iastore, 1) := by decide +kernel
theorem d_H_trace_49 : decode me_H_trace.2.1 49 = .ok (.aload_n 0, 1) := by decide +kernel
theorem d_H_trace_50 : decode me_H_trace.2.1 50 = .ok (.getfield 39, 3) := by decide +kernel
theorem d_H_trace_53 : decode me_H_trace.2.1 53 = .ok (.iload_n 2, 1) := by decide +kernel
theorem d_H_trace_54 : decode me_H_trace.2.1 54 = .ok (.aload_n 0, 1) := by decide +kernel
theorem d_H_trace_55 : decode me_H_trace.2.1 55 = .ok (.getfield 39, 3) := by decide +kernel
theorem d_H_trace_58 : decode me_H_trace.2.1 58 = .ok (.getfield 102, 3) := by decide +kernel
theorem d_H_trace_61 : decode me_H_trace.2.1 61 = .ok (.imul, 1) := by decide +kernel
theorem d_H_trace_62 : decode me_H_trace.2.1 62 = .ok (.iload 4, 2) := by decide +kernel
theorem d_H_trace_64 : decode me_H_trace.2.1 64 = .ok (.iadd, 1) := by decide +kernel
theorem d_H_trace_65 : decode me_H_trace.2.1 65 = .ok (.invokevirtual 105, 3) := by decide +kernel
theorem d_H_trace_68 : decode me_H_trace.2.1 68 = .ok (.istore_n 2, 1) := by decide +kernel
theorem d_H_trace_69 : decode me_H_trace.2.1 69 = .ok (.iinc 3 1, 3) := by decide +kernel
theorem d_H_trace_72 : decode me_H_trace.2.1 72 = .ok (.goto (-68), 3) := by decide +kernel
theorem d_H_trace_75 : decode me_H_trace.2.1 75 = .ok (.return_, 1) := by decide +kernel
abbrev G_H_trace_0 (l : Launch) (v : gs_V) (n : Nat) (post : gs_S → Prop) (σ : gs_S) (x1 : Int32) : Prop := gG l v lyC 42 me_H_trace n (qV v lyC 42 post) 0 [(0, .ref (v.2.2 37)), (1, .int x1)] [] σ
abbrev G_H_trace_4 (l : Launch) (v : gs_V) (n : Nat) (post : gs_S → Prop) (σ : gs_S) (x2 : Int32) (x3 : Int32) : Prop := gG l v lyC 42 me_H_trace n (qV v lyC 42 post) 4 [(0, .ref (v.2.2 37)), (2, .int x2), (3, .int x3)] [] σ
set_option maxRecDepth 20000 in
set_option maxHeartbeats 1000000 in
theorem T_H_trace_0 {l : Launch} {v : gs_V} {n : Nat} {post : gs_S → Prop} {σ : gs_S} {x1 : Int32} (h : G_H_trace_4 l v n post σ x1 0) : G_H_trace_0 l v n post σ x1 := by
  refine g_iload_n d_H_trace_0 1 rfl rfl ?_
  refine g_istore_n (L' := [(2, .int x1), (0, .ref (v.2.2 37)), (1, .int x1)]) d_H_trace_1 rfl (by decide) rfl ?_
  refine g_iconst d_H_trace_2 (x := 0) (by decide) ?_
  refine g_istore_n (L' := [(3, .int 0), (2, .int x1), (0, .ref (v.2.2 37)), (1, .int x1)]) d_H_trace_3 rfl (by decide) rfl ?_
  exact g_sub [2, 1, 0] rfl h
set_option maxRecDepth 20000 in
set_option maxHeartbeats 1000000 in
theorem T_H_trace_4 {l : Launch} {v : gs_V} {n : Nat} {post : gs_S → Prop} {σ : gs_S} {x2 : Int32} {x3 : Int32} (h : (((σ.1 10 1) ≤ x3 → post σ) ∧ (¬ (σ.1 10 1) ≤ x3 → gM l v lyC 42 me_H_leastCell n [.ref (v.2.2 37), .int x2, .int x3] σ (qI v lyC 42 (fun r1 σ1 => ¬ (σ1.1 10 1) = 0 ∧ vp_in (jR ((x3 + (σ1.1 4 7)) - 1) (σ1.1 10 1)) 64 ∧ gM l v lyC 42 me_R_end n [.ref (v.2.2 4), .int ((x2 * (σ1.1 4 6)) + r1)] (gs_pI σ1 39 ((jR ((x3 + (σ1.1 4 7)) - 1) (σ1.1 10 1)).toNatClampNeg) r1) (qI v lyC 42 (fun r3 σ3 => G_H_trace_4 l v n post σ3 r3 (x3 + 1)))))))) : G_H_trace_4 l v n post σ x2 x3 := by
  refine g_iload_n d_H_trace_4 2 rfl rfl ?_
  refine g_aload_n d_H_trace_5 0 rfl rfl ?_
  refine g_getV (x := .ref (v.2.2 10)) d_H_trace_6 fl_H_43 (by decide) rfl rfl rfl ?_
  refine g_getV (x := .int (σ.1 10 1)) d_H_trace_9 fl_H_80 (by decide) rfl rfl rfl ?_
  refine g_icmp_ge (tgt := 75) d_H_trace_12 rfl (fun hc => ?_) (fun hc => ?_)
  · have h := h.1 hc
    exact g_vret d_H_trace_75 rfl h
  · have h := h.2 hc
    refine g_aload_n d_H_trace_15 0 rfl rfl ?_
    refine g_iload_n d_H_trace_16 1 rfl rfl ?_
    refine g_iload_n d_H_trace_17 2 rfl rfl ?_
    refine g_callVi (av := [.int x2, .int x3]) (rest := []) d_H_trace_18 Y_H_leastCell lk_H_95 (by decide) rfl rfl I_H_leastCell rfl (Nat.le_of_ble_eq_true rfl) rfl h (fun r1 σ1 h => ?_)
    refine g_istore (L' := [(4, .int r1), (0, .ref (v.2.2 37)), (2, .int x2), (3, .int x3)]) d_H_trace_21 (by decide) rfl ?_
    refine g_aload_n d_H_trace_23 1 rfl rfl ?_
    refine g_getV (x := .ref (v.2.2 39)) d_H_trace_24 fl_H_15 (by decide) rfl rfl rfl ?_
    refine g_iload_n d_H_trace_27 3 rfl rfl ?_
    refine g_aload_n d_H_trace_28 1 rfl rfl ?_
    refine g_getV (x := .ref (v.2.2 4)) d_H_trace_29 fl_H_39 (by decide) rfl rfl rfl ?_
    refine g_getV (x := .int (σ1.1 4 7)) d_H_trace_32 fl_H_99 (by decide) rfl rfl rfl ?_
    refine g_iadd d_H_trace_35 ?_
    refine g_iconst d_H_trace_36 (x := 1) (by decide) ?_
    refine g_isub d_H_trace_37 ?_
    refine g_aload_n d_H_trace_38 1 rfl rfl ?_
    refine g_getV (x := .ref (v.2.2 10)) d_H_trace_39 fl_H_43 (by decide) rfl rfl rfl ?_
    refine g_getV (x := .int (σ1.1 10 1)) d_H_trace_42 fl_H_80 (by decide) rfl rfl rfl ?_
    refine g_irem d_H_trace_45 h.1 ?_
    have h := h.2
    refine g_iload d_H_trace_46 0 rfl ?_
    have hi2 := h.1
    have h := h.2
    refine g_iast d_H_trace_48 (by decide) rfl hi2 ?_
    refine g_aload_n d_H_trace_49 1 rfl rfl ?_
    refine g_getV (x := .ref (v.2.2 4)) d_H_trace_50 fl_H_39 (by decide) rfl rfl rfl ?_
    refine g_iload_n d_H_trace_53 2 rfl rfl ?_
    refine g_aload_n d_H_trace_54 1 rfl rfl ?_
    refine g_getV (x := .ref (v.2.2 4)) d_H_trace_55 fl_H_39 (by decide) rfl rfl rfl ?_
    refine g_getV (x := .int (σ1.1 4 6)) d_H_trace_58 fl_H_102 (by decide) rfl rfl rfl ?_
    refine g_imul d_H_trace_61 ?_
    refine g_iload d_H_trace_62 0 rfl ?_
    refine g_iadd d_H_trace_64 ?_
    refine g_callVi (av := [.int ((x2 * (σ1.1 4 6)) + r1)]) (rest := []) d_H_trace_65 Y_R_end lk_H_105 (by decide) rfl rfl I_R_end rfl (Nat.le_of_ble_eq_true rfl) rfl h (fun r3 σ3 h => ?_)
    refine g_istore_n (L' := [(2, .int r3), (4, .int r1), (0, .ref (v.2.2 37)), (3, .int x3)]) d_H_trace_68 rfl (by decide) rfl ?_
    refine g_iinc (L' := [(3, .int (x3 + 1)), (2, .int r3), (4, .int r1), (0, .ref (v.2.2 37))]) d_H_trace_69 3 rfl (by rfl) (by decide) rfl ?_
    refine g_goto (tgt := 4) d_H_trace_72 rfl ?_
    exact g_sub [3, 1, 0] rfl h
theorem E_H_trace {l : Launch} {v : gs_V} {n : Nat} {post : gs_S → Prop} {σ : gs_S} {x1 : Int32} (h : G_H_trace_0 l v n post σ x1) : gM l v lyC 42 me_H_trace (n + 1) [.ref (v.2.2 37), .int x1] σ (qV v lyC 42 post) := gM_of (by decide +kernel) (Nat.le_of_ble_eq_true rfl) h
/-! LineRules$Past.walksBackTo -/
theorem d_H_walksBackTo_0 : decode me_H_walksBackTo.2.1 0 = .ok (.aload_n 0, 1) := by decide +kernel
theorem d_H_walksBackTo_1 : decode me_H_walksBackTo.2.1 1 = .ok (.getfield 19, 3) := by decide +kernel
theorem d_H_walksBackTo_4 : decode me_H_walksBackTo.2.1 4 = .ok (.lconst 0, 1) := by decide +kernel
theorem d_H_walksBackTo_5 : decode me_H_walksBackTo.2.1 5 = .ok (.invokestatic 111, 3) := by decide +kernel
theorem d_H_walksBackTo_8 : decode me_H_walksBackTo.2.1 8 = .ok (.aload_n 0, 1) := by decide +kernel
theorem d_H_walksBackTo_9 : decode me_H_walksBackTo.2.1 9 = .ok (.getfield 19, 3) := by decide +kernel
theorem d_H_walksBackTo_12 : decode me_H_walksBackTo.2.1 12 = .ok (.iload_n 1, 1) := by decide +kernel
theorem d_H_walksBackTo_13 : decode me_H_walksBackTo.2.1 13 = .ok (.lconst 1, 1) := by decide +kernel
theorem d_H_walksBackTo_14 : decode me_H_walksBackTo.2.1 14 = .ok (.lastore, 1) := by decide +kernel
theorem d_H_walksBackTo_15 : decode me_H_walksBackTo.2.1 15 = .ok (.iconst 0, 1) := by decide +kernel
theorem d_H_walksBackTo_16 : decode me_H_walksBackTo.2.1 16 = .ok (.istore_n 2, 1) := by decide +kernel
theorem d_H_walksBackTo_17 : decode me_H_walksBackTo.2.1 17 = .ok (.iload_n 2, 1) := by decide +kernel
theorem d_H_walksBackTo_18 : decode me_H_walksBackTo.2.1 18 = .ok (.aload_n 0, 1) := by decide +kernel
theorem d_H_walksBackTo_19 : decode me_H_walksBackTo.2.1 19 = .ok (.getfield 43, 3) := by decide +kernel
theorem d_H_walksBackTo_22 : decode me_H_walksBackTo.2.1 22 = .ok (.getfield 80, 3) := by decide +kernel
theorem d_H_walksBackTo_25 : decode me_H_walksBackTo.2.1 25 = .ok (.if_icmp .ge 18, 3) := by decide +kernel
theorem d_H_walksBackTo_28 : decode me_H_walksBackTo.2.1 28 = .ok (.aload_n 0, 1) := by decide +kernel
theorem d_H_walksBackTo_29 : decode me_H_walksBackTo.2.1 29 = .ok (.aload_n 0, 1) := by decide +kernel
theorem d_H_walksBackTo_30 : decode me_H_walksBackTo.2.1 30 = .ok (.iload_n 2, 1) := by decide +kernel
theorem d_H_walksBackTo_31 : decode me_H_walksBackTo.2.1 31 = .ok (.invokevirtual 83, 3) := by decide +kernel
theorem d_H_walksBackTo_34 : decode me_H_walksBackTo.2.1 34 = .ok (.invokevirtual 117, 3) := by decide +kernel
theorem d_H_walksBackTo_37 : decode me_H_walksBackTo.2.1 37 = .ok (.iinc 2 1, 3) := by decide +kernel
theorem d_H_walksBackTo_40 : decode me_H_walksBackTo.2.1 40 = .ok (.goto (-23), 3) := by decide +kernel
theorem d_H_walksBackTo_43 : decode me_H_walksBackTo.2.1 43 = .ok (.aload_n 0, 1) := by decide +kernel
theorem d_H_walksBackTo_44 : decode me_H_walksBackTo.2.1 44 = .ok (.getfield 19, 3) := by decide +kernel
theorem d_H_walksBackTo_47 : decode me_H_walksBackTo.2.1 47 = .ok (.iload_n 1, 1) := by decide +kernel
theorem d_H_walksBackTo_48 : decode me_H_walksBackTo.2.1 48 = .ok (.laload, 1) := by decide +kernel
theorem d_H_walksBackTo_49 : decode me_H_walksBackTo.2.1 49 = .ok (.lreturn, 1) := by decide +kernel
abbrev G_H_walksBackTo_0 (l : Launch) (v : gs_V) (n : Nat) (post : Int64 → gs_S → Prop) (σ : gs_S) (x1 : Int32) : Prop := gG l v lyC 42 me_H_walksBackTo n (qL v lyC 42 post) 0 [(0, .ref (v.2.2 37)), (1, .int x1)] [] σ
abbrev G_H_walksBackTo_17 (l : Launch) (v : gs_V) (n : Nat) (post : Int64 → gs_S → Prop) (σ : gs_S) (x1 : Int32) (x2 : Int32) : Prop := gG l v lyC 42 me_H_walksBackTo n (qL v lyC 42 post) 17 [(0, .ref (v.2.2 37)), (1, .int x1), (2, .int x2)] [] σ
set_option maxRecDepth 20000 in
set_option maxHeartbeats 1000000 in
theorem T_H_walksBackTo_0 {l : Launch} {v : gs_V} {n : Nat} {post : Int64 → gs_S → Prop} {σ : gs_S} {x1 : Int32} (h : gM l v lyC 42 me_Y_fillJ n [.ref (v.2.2 (σ.2.2 37 4)), .long 0] σ (qV v lyC 42 (fun σ1 => (σ1.2.2 37 4 < 42 ∧ lyC (σ1.2.2 37 4) = .inl (1, 64, 0)) ∧ vp_in x1 64 ∧ G_H_walksBackTo_17 l v n post (gs_pL σ1 (σ1.2.2 37 4) x1.toNatClampNeg 1) x1 0))) : G_H_walksBackTo_0 l v n post σ x1 := by
  refine g_aload_n d_H_walksBackTo_0 0 rfl rfl ?_
  refine g_getV (x := .ref (v.2.2 (σ.2.2 37 4))) d_H_walksBackTo_1 fl_H_19 (by decide) rfl rfl rfl ?_
  refine g_lconst d_H_walksBackTo_4 (x := 0) (by decide) ?_
  refine g_callSv (av := [.ref (v.2.2 (σ.2.2 37 4)), .long 0]) (rest := []) d_H_walksBackTo_5 Y_Y_fillJ lk_H_111 I_Y_fillJ rfl (Nat.le_of_ble_eq_true rfl) rfl h (fun σ1 h => ?_)
  refine g_aload_n d_H_walksBackTo_8 0 rfl rfl ?_
  refine g_getV (x := .ref (v.2.2 (σ1.2.2 37 4))) d_H_walksBackTo_9 fl_H_19 (by decide) rfl rfl rfl ?_
  refine g_iload_n d_H_walksBackTo_12 1 rfl rfl ?_
  refine g_lconst d_H_walksBackTo_13 (x := 1) (by decide) ?_
  have hq2 := h.1
  have h := h.2
  have hi3 := h.1
  have h := h.2
  refine g_last d_H_walksBackTo_14 hq2.1 hq2.2 hi3 ?_
  refine g_iconst d_H_walksBackTo_15 (x := 0) (by decide) ?_
  refine g_istore_n (L' := [(2, .int 0), (0, .ref (v.2.2 37)), (1, .int x1)]) d_H_walksBackTo_16 rfl (by decide) rfl ?_
  exact g_sub [1, 2, 0] rfl h
set_option maxRecDepth 20000 in
set_option maxHeartbeats 1000000 in
theorem T_H_walksBackTo_17 {l : Launch} {v : gs_V} {n : Nat} {post : Int64 → gs_S → Prop} {σ : gs_S} {x1 : Int32} {x2 : Int32} (h : (((σ.1 10 1) ≤ x2 → (σ.2.2 37 4 < 42 ∧ lyC (σ.2.2 37 4) = .inl (1, 64, 0)) ∧ vp_in x1 64 ∧ post (σ.2.1 (σ.2.2 37 4) x1.toNatClampNeg) σ) ∧ (¬ (σ.1 10 1) ≤ x2 → gM l v lyC 42 me_H_due n [.ref (v.2.2 37), .int x2] σ (qI v lyC 42 (fun r3 σ3 => gM l v lyC 42 me_H_goOn n [.ref (v.2.2 37), .int r3] σ3 (qV v lyC 42 (fun σ4 => G_H_walksBackTo_17 l v n post σ4 x1 (x2 + 1)))))))) : G_H_walksBackTo_17 l v n post σ x1 x2 := by
  refine g_iload_n d_H_walksBackTo_17 2 rfl rfl ?_
  refine g_aload_n d_H_walksBackTo_18 0 rfl rfl ?_
  refine g_getV (x := .ref (v.2.2 10)) d_H_walksBackTo_19 fl_H_43 (by decide) rfl rfl rfl ?_
  refine g_getV (x := .int (σ.1 10 1)) d_H_walksBackTo_22 fl_H_80 (by decide) rfl rfl rfl ?_
  refine g_icmp_ge (tgt := 43) d_H_walksBackTo_25 rfl (fun hc => ?_) (fun hc => ?_)
  · have h := h.1 hc
    refine g_aload_n d_H_walksBackTo_43 0 rfl rfl ?_
    refine g_getV (x := .ref (v.2.2 (σ.2.2 37 4))) d_H_walksBackTo_44 fl_H_19 (by decide) rfl rfl rfl ?_
    refine g_iload_n d_H_walksBackTo_47 1 rfl rfl ?_
    have hq1 := h.1
    have h := h.2
    have hi2 := h.1
    have h := h.2
    refine g_lald (x := σ.2.1 (σ.2.2 37 4) x1.toNatClampNeg) d_H_walksBackTo_48 hq1.1 hq1.2 hi2 rfl ?_
    exact g_lret d_H_walksBackTo_49 rfl h
  · have h := h.2 hc
    refine g_aload_n d_H_walksBackTo_28 0 rfl rfl ?_
    refine g_aload_n d_H_walksBackTo_29 0 rfl rfl ?_
    refine g_iload_n d_H_walksBackTo_30 2 rfl rfl ?_
    refine g_callVi (av := [.int x2]) (rest := [.ref (v.2.2 37)]) d_H_walksBackTo_31 Y_H_due lk_H_83 (by decide) rfl rfl I_H_due rfl (Nat.le_of_ble_eq_true rfl) rfl h (fun r3 σ3 h => ?_)
    refine g_callVv (av := [.int r3]) (rest := []) d_H_walksBackTo_34 Y_H_goOn lk_H_117 (by decide) rfl rfl I_H_goOn rfl (Nat.le_of_ble_eq_true rfl) rfl h (fun σ4 h => ?_)
    refine g_iinc (L' := [(2, .int (x2 + 1)), (0, .ref (v.2.2 37)), (1, .int x1)]) d_H_walksBackTo_37 2 rfl (by rfl) (by decide) rfl ?_
    refine g_goto (tgt := 17) d_H_walksBackTo_40 rfl ?_
    exact g_sub [1, 2, 0] rfl h
theorem E_H_walksBackTo {l : Launch} {v : gs_V} {n : Nat} {post : Int64 → gs_S → Prop} {σ : gs_S} {x1 : Int32} (h : G_H_walksBackTo_0 l v n post σ x1) : gM l v lyC 42 me_H_walksBackTo (n + 1) [.ref (v.2.2 37), .int x1] σ (qL v lyC 42 post) := gM_of (by decide +kernel) (Nat.le_of_ble_eq_true rfl) h
