/-! LineRules.before -/
theorem d_A_before_0 : decode me_A_before.2.1 0 = .ok (.aload_n 0, 1) := by decide +kernel
theorem d_A_before_1 : decode me_A_before.2.1 1 = .ok (.getfield 19, 3) := by decide +kernel
theorem d_A_before_4 : decode me_A_before.2.1 4 = .ok (.getfield 93, 3) := by decide +kernel
theorem d_A_before_7 : decode me_A_before.2.1 7 = .ok (.ifCond .ne 5, 3) := by decide +kernel
theorem d_A_before_10 : decode me_A_before.2.1 10 = .ok (.iconst (-1), 1) := by decide +kernel
theorem d_A_before_11 : decode me_A_before.2.1 11 = .ok (.ireturn, 1) := by decide +kernel
theorem d_A_before_12 : decode me_A_before.2.1 12 = .ok (.aload_n 0, 1) := by decide +kernel
theorem d_A_before_13 : decode me_A_before.2.1 13 = .ok (.getfield 67, 3) := by decide +kernel
theorem d_A_before_16 : decode me_A_before.2.1 16 = .ok (.invokevirtual 156, 3) := by decide +kernel
theorem d_A_before_19 : decode me_A_before.2.1 19 = .ok (.ifCond .eq 7, 3) := by decide +kernel
theorem d_A_before_22 : decode me_A_before.2.1 22 = .ok (.iconst 1, 1) := by decide +kernel
theorem d_A_before_23 : decode me_A_before.2.1 23 = .ok (.goto 4, 3) := by decide +kernel
theorem d_A_before_26 : decode me_A_before.2.1 26 = .ok (.iconst 0, 1) := by decide +kernel
theorem d_A_before_27 : decode me_A_before.2.1 27 = .ok (.ireturn, 1) := by decide +kernel
abbrev G_A_before_0 (l : Launch) (v : gs_V) (n : Nat) (post : Int32 → gs_S → Prop) (σ : gs_S) : Prop := gG l v lyC 42 me_A_before n (qI v lyC 42 post) 0 [(0, .ref (v.2.2 0))] [] σ
abbrev G_A_before_27 (l : Launch) (v : gs_V) (n : Nat) (post : Int32 → gs_S → Prop) (σ : gs_S) (s0 : Int32) : Prop := gG l v lyC 42 me_A_before n (qI v lyC 42 post) 27 [] [.int s0] σ
set_option maxRecDepth 20000 in
set_option maxHeartbeats 1000000 in
theorem T_A_before_0 {l : Launch} {v : gs_V} {n : Nat} {post : Int32 → gs_S → Prop} {σ : gs_S} (h : ((¬ (σ.1 4 5) = 0 → gM l v lyC 42 me_H_exists n [.ref (v.2.2 37)] σ (qI v lyC 42 (fun r1 σ1 => ((r1 = 0 → G_A_before_27 l v n post σ1 0) ∧ (¬ r1 = 0 → G_A_before_27 l v n post σ1 1))))) ∧ ((σ.1 4 5) = 0 → post ((-1)) σ))) : G_A_before_0 l v n post σ := by
  refine g_aload_n d_A_before_0 0 rfl rfl ?_
  refine g_getV (x := .ref (v.2.2 4)) d_A_before_1 fl_A_19 (by decide) rfl rfl rfl ?_
  refine g_getV (x := .int (σ.1 4 5)) d_A_before_4 fl_A_93 (by decide) rfl rfl rfl ?_
  refine g_if_ne (tgt := 12) d_A_before_7 rfl (fun hc => ?_) (fun hc => ?_)
  · have h := h.1 hc
    refine g_aload_n d_A_before_12 0 rfl rfl ?_
    refine g_getV (x := .ref (v.2.2 37)) d_A_before_13 fl_A_67 (by decide) rfl rfl rfl ?_
    refine g_callVi (av := []) (rest := []) d_A_before_16 Y_H_exists lk_A_156 (by decide) rfl rfl I_H_exists rfl (Nat.le_of_ble_eq_true rfl) rfl h (fun r1 σ1 h => ?_)
    refine g_if_eq (tgt := 26) d_A_before_19 rfl (fun hc => ?_) (fun hc => ?_)
    · have h := h.1 hc
      refine g_iconst d_A_before_26 (x := 0) (by decide) ?_
      exact g_sub [] rfl h
    · have h := h.2 hc
      refine g_iconst d_A_before_22 (x := 1) (by decide) ?_
      refine g_goto (tgt := 27) d_A_before_23 rfl ?_
      exact g_sub [] rfl h
  · have h := h.2 hc
    refine g_iconst d_A_before_10 (x := (-1)) (by decide) ?_
    exact g_iret d_A_before_11 rfl h
set_option maxRecDepth 20000 in
set_option maxHeartbeats 1000000 in
theorem T_A_before_27 {l : Launch} {v : gs_V} {n : Nat} {post : Int32 → gs_S → Prop} {σ : gs_S} {s0 : Int32} (h : post s0 σ) : G_A_before_27 l v n post σ s0 := by
  exact g_iret d_A_before_27 rfl h
theorem E_A_before {l : Launch} {v : gs_V} {n : Nat} {post : Int32 → gs_S → Prop} {σ : gs_S} (h : G_A_before_0 l v n post σ) : gM l v lyC 42 me_A_before (n + 1) [.ref (v.2.2 0)] σ (qI v lyC 42 post) := gM_of (by decide +kernel) (Nat.le_of_ble_eq_true rfl) h
/-! LineRules.beforeAt -/
theorem d_A_beforeAt_0 : decode me_A_beforeAt.2.1 0 = .ok (.aload_n 0, 1) := by decide +kernel
theorem d_A_beforeAt_1 : decode me_A_beforeAt.2.1 1 = .ok (.getfield 19, 3) := by decide +kernel
theorem d_A_beforeAt_4 : decode me_A_beforeAt.2.1 4 = .ok (.getfield 93, 3) := by decide +kernel
theorem d_A_beforeAt_7 : decode me_A_beforeAt.2.1 7 = .ok (.ifCond .eq 14, 3) := by decide +kernel
theorem d_A_beforeAt_10 : decode me_A_beforeAt.2.1 10 = .ok (.aload_n 0, 1) := by decide +kernel
theorem d_A_beforeAt_11 : decode me_A_beforeAt.2.1 11 = .ok (.getfield 67, 3) := by decide +kernel
theorem d_A_beforeAt_14 : decode me_A_beforeAt.2.1 14 = .ok (.iload_n 1, 1) := by decide +kernel
theorem d_A_beforeAt_15 : decode me_A_beforeAt.2.1 15 = .ok (.invokevirtual 159, 3) := by decide +kernel
theorem d_A_beforeAt_18 : decode me_A_beforeAt.2.1 18 = .ok (.goto 4, 3) := by decide +kernel
theorem d_A_beforeAt_21 : decode me_A_beforeAt.2.1 21 = .ok (.iconst (-1), 1) := by decide +kernel
theorem d_A_beforeAt_22 : decode me_A_beforeAt.2.1 22 = .ok (.ireturn, 1) := by decide +kernel
abbrev G_A_beforeAt_0 (l : Launch) (v : gs_V) (n : Nat) (post : Int32 → gs_S → Prop) (σ : gs_S) (x1 : Int32) : Prop := gG l v lyC 42 me_A_beforeAt n (qI v lyC 42 post) 0 [(0, .ref (v.2.2 0)), (1, .int x1)] [] σ
abbrev G_A_beforeAt_22 (l : Launch) (v : gs_V) (n : Nat) (post : Int32 → gs_S → Prop) (σ : gs_S) (s0 : Int32) : Prop := gG l v lyC 42 me_A_beforeAt n (qI v lyC 42 post) 22 [] [.int s0] σ
set_option maxRecDepth 20000 in
set_option maxHeartbeats 1000000 in
theorem T_A_beforeAt_0 {l : Launch} {v : gs_V} {n : Nat} {post : Int32 → gs_S → Prop} {σ : gs_S} {x1 : Int32} (h : (((σ.1 4 5) = 0 → G_A_beforeAt_22 l v n post σ ((-1))) ∧ (¬ (σ.1 4 5) = 0 → gM l v lyC 42 me_H_cell n [.ref (v.2.2 37), .int x1] σ (qI v lyC 42 (fun r1 σ1 => G_A_beforeAt_22 l v n post σ1 r1))))) : G_A_beforeAt_0 l v n post σ x1 := by
  refine g_aload_n d_A_beforeAt_0 0 rfl rfl ?_
  refine g_getV (x := .ref (v.2.2 4)) d_A_beforeAt_1 fl_A_19 (by decide) rfl rfl rfl ?_
  refine g_getV (x := .int (σ.1 4 5)) d_A_beforeAt_4 fl_A_93 (by decide) rfl rfl rfl ?_
  refine g_if_eq (tgt := 21) d_A_beforeAt_7 rfl (fun hc => ?_) (fun hc => ?_)
  · have h := h.1 hc
    refine g_iconst d_A_beforeAt_21 (x := (-1)) (by decide) ?_
    exact g_sub [] rfl h
  · have h := h.2 hc
    refine g_aload_n d_A_beforeAt_10 0 rfl rfl ?_
    refine g_getV (x := .ref (v.2.2 37)) d_A_beforeAt_11 fl_A_67 (by decide) rfl rfl rfl ?_
    refine g_iload_n d_A_beforeAt_14 1 rfl rfl ?_
    refine g_callVi (av := [.int x1]) (rest := []) d_A_beforeAt_15 Y_H_cell lk_A_159 (by decide) rfl rfl I_H_cell rfl (Nat.le_of_ble_eq_true rfl) rfl h (fun r1 σ1 h => ?_)
    refine g_goto (tgt := 22) d_A_beforeAt_18 rfl ?_
    exact g_sub [] rfl h
set_option maxRecDepth 20000 in
set_option maxHeartbeats 1000000 in
theorem T_A_beforeAt_22 {l : Launch} {v : gs_V} {n : Nat} {post : Int32 → gs_S → Prop} {σ : gs_S} {s0 : Int32} (h : post s0 σ) : G_A_beforeAt_22 l v n post σ s0 := by
  exact g_iret d_A_beforeAt_22 rfl h
theorem E_A_beforeAt {l : Launch} {v : gs_V} {n : Nat} {post : Int32 → gs_S → Prop} {σ : gs_S} {x1 : Int32} (h : G_A_beforeAt_0 l v n post σ x1) : gM l v lyC 42 me_A_beforeAt (n + 1) [.ref (v.2.2 0), .int x1] σ (qI v lyC 42 post) := gM_of (by decide +kernel) (Nat.le_of_ble_eq_true rfl) h
/-! LineRules.conserved -/
theorem d_A_conserved_0 : decode me_A_conserved.2.1 0 = .ok (.aload_n 0, 1) := by decide +kernel
theorem d_A_conserved_1 : decode me_A_conserved.2.1 1 = .ok (.getfield 19, 3) := by decide +kernel
theorem d_A_conserved_4 : decode me_A_conserved.2.1 4 = .ok (.getfield 93, 3) := by decide +kernel
theorem d_A_conserved_7 : decode me_A_conserved.2.1 7 = .ok (.ifCond .eq 13, 3) := by decide +kernel
theorem d_A_conserved_10 : decode me_A_conserved.2.1 10 = .ok (.aload_n 0, 1) := by decide +kernel
theorem d_A_conserved_11 : decode me_A_conserved.2.1 11 = .ok (.getfield 51, 3) := by decide +kernel
theorem d_A_conserved_14 : decode me_A_conserved.2.1 14 = .ok (.invokevirtual 144, 3) := by decide +kernel
theorem d_A_conserved_17 : decode me_A_conserved.2.1 17 = .ok (.goto 4, 3) := by decide +kernel
theorem d_A_conserved_20 : decode me_A_conserved.2.1 20 = .ok (.iconst (-1), 1) := by decide +kernel
theorem d_A_conserved_21 : decode me_A_conserved.2.1 21 = .ok (.ireturn, 1) := by decide +kernel
abbrev G_A_conserved_0 (l : Launch) (v : gs_V) (n : Nat) (post : Int32 → gs_S → Prop) (σ : gs_S) : Prop := gG l v lyC 42 me_A_conserved n (qI v lyC 42 post) 0 [(0, .ref (v.2.2 0))] [] σ
abbrev G_A_conserved_21 (l : Launch) (v : gs_V) (n : Nat) (post : Int32 → gs_S → Prop) (σ : gs_S) (s0 : Int32) : Prop := gG l v lyC 42 me_A_conserved n (qI v lyC 42 post) 21 [] [.int s0] σ
set_option maxRecDepth 20000 in
set_option maxHeartbeats 1000000 in
theorem T_A_conserved_0 {l : Launch} {v : gs_V} {n : Nat} {post : Int32 → gs_S → Prop} {σ : gs_S} (h : (((σ.1 4 5) = 0 → G_A_conserved_21 l v n post σ ((-1))) ∧ (¬ (σ.1 4 5) = 0 → gM l v lyC 42 me_W_count n [.ref (v.2.2 19)] σ (qI v lyC 42 (fun r1 σ1 => G_A_conserved_21 l v n post σ1 r1))))) : G_A_conserved_0 l v n post σ := by
  refine g_aload_n d_A_conserved_0 0 rfl rfl ?_
  refine g_getV (x := .ref (v.2.2 4)) d_A_conserved_1 fl_A_19 (by decide) rfl rfl rfl ?_
  refine g_getV (x := .int (σ.1 4 5)) d_A_conserved_4 fl_A_93 (by decide) rfl rfl rfl ?_
  refine g_if_eq (tgt := 20) d_A_conserved_7 rfl (fun hc => ?_) (fun hc => ?_)
  · have h := h.1 hc
    refine g_iconst d_A_conserved_20 (x := (-1)) (by decide) ?_
    exact g_sub [] rfl h
  · have h := h.2 hc
    refine g_aload_n d_A_conserved_10 0 rfl rfl ?_
    refine g_getV (x := .ref (v.2.2 19)) d_A_conserved_11 fl_A_51 (by decide) rfl rfl rfl ?_
    refine g_callVi (av := []) (rest := []) d_A_conserved_14 Y_W_count lk_A_144 (by decide) rfl rfl I_W_count rfl (Nat.le_of_ble_eq_true rfl) rfl h (fun r1 σ1 h => ?_)
    refine g_goto (tgt := 21) d_A_conserved_17 rfl ?_
    exact g_sub [] rfl h
set_option maxRecDepth 20000 in
set_option maxHeartbeats 1000000 in
theorem T_A_conserved_21 {l : Launch} {v : gs_V} {n : Nat} {post : Int32 → gs_S → Prop} {σ : gs_S} {s0 : Int32} (h : post s0 σ) : G_A_conserved_21 l v n post σ s0 := by
  exact g_iret d_A_conserved_21 rfl h
theorem E_A_conserved {l : Launch} {v : gs_V} {n : Nat} {post : Int32 → gs_S → Prop} {σ : gs_S} (h : G_A_conserved_0 l v n post σ) : gM l v lyC 42 me_A_conserved (n + 1) [.ref (v.2.2 0)] σ (qI v lyC 42 post) := gM_of (by decide +kernel) (Nat.le_of_ble_eq_true rfl) h
/-! LineRules.get -/
theorem d_A_get_0 : decode me_A_get.2.1 0 = .ok (.aload_n 0, 1) := by decide +kernel
theorem d_A_get_1 : decode me_A_get.2.1 1 = .ok (.getfield 28, 3) := by decide +kernel
theorem d_A_get_4 : decode me_A_get.2.1 4 = .ok (.iload_n 1, 1) := by decide +kernel
theorem d_A_get_5 : decode me_A_get.2.1 5 = .ok (.invokevirtual 111, 3) := by decide +kernel
theorem d_A_get_8 : decode me_A_get.2.1 8 = .ok (.ifCond .eq 15, 3) := by decide +kernel
theorem d_A_get_11 : decode me_A_get.2.1 11 = .ok (.aload_n 0, 1) := by decide +kernel
theorem d_A_get_12 : decode me_A_get.2.1 12 = .ok (.getfield 28, 3) := by decide +kernel
theorem d_A_get_15 : decode me_A_get.2.1 15 = .ok (.getfield 118, 3) := by decide +kernel
theorem d_A_get_18 : decode me_A_get.2.1 18 = .ok (.iload_n 1, 1) := by decide +kernel
theorem d_A_get_19 : decode me_A_get.2.1 19 = .ok (.iaload, 1) := by decide +kernel
theorem d_A_get_20 : decode me_A_get.2.1 20 = .ok (.goto 4, 3) := by decide +kernel
theorem d_A_get_23 : decode me_A_get.2.1 23 = .ok (.iconst (-1), 1) := by decide +kernel
theorem d_A_get_24 : decode me_A_get.2.1 24 = .ok (.ireturn, 1) := by decide +kernel
abbrev G_A_get_0 (l : Launch) (v : gs_V) (n : Nat) (post : Int32 → gs_S → Prop) (σ : gs_S) (x1 : Int32) : Prop := gG l v lyC 42 me_A_get n (qI v lyC 42 post) 0 [(0, .ref (v.2.2 0)), (1, .int x1)] [] σ
abbrev G_A_get_24 (l : Launch) (v : gs_V) (n : Nat) (post : Int32 → gs_S → Prop) (σ : gs_S) (s0 : Int32) : Prop := gG l v lyC 42 me_A_get n (qI v lyC 42 post) 24 [] [.int s0] σ
set_option maxRecDepth 20000 in
set_option maxHeartbeats 1000000 in
theorem T_A_get_0 {l : Launch} {v : gs_V} {n : Nat} {post : Int32 → gs_S → Prop} {σ : gs_S} {x1 : Int32} (h : gM l v lyC 42 me_C_has n [.ref (v.2.2 10), .int x1] σ (qI v lyC 42 (fun r1 σ1 => ((r1 = 0 → G_A_get_24 l v n post σ1 ((-1))) ∧ (¬ r1 = 0 → vp_in x1 64 ∧ G_A_get_24 l v n post σ1 (σ1.1 11 x1.toNatClampNeg)))))) : G_A_get_0 l v n post σ x1 := by
  refine g_aload_n d_A_get_0 0 rfl rfl ?_
  refine g_getV (x := .ref (v.2.2 10)) d_A_get_1 fl_A_28 (by decide) rfl rfl rfl ?_
  refine g_iload_n d_A_get_4 1 rfl rfl ?_
  refine g_callVi (av := [.int x1]) (rest := []) d_A_get_5 Y_C_has lk_A_111 (by decide) rfl rfl I_C_has rfl (Nat.le_of_ble_eq_true rfl) rfl h (fun r1 σ1 h => ?_)
  refine g_if_eq (tgt := 23) d_A_get_8 rfl (fun hc => ?_) (fun hc => ?_)
  · have h := h.1 hc
    refine g_iconst d_A_get_23 (x := (-1)) (by decide) ?_
    exact g_sub [] rfl h
  · have h := h.2 hc
    refine g_aload_n d_A_get_11 0 rfl rfl ?_
    refine g_getV (x := .ref (v.2.2 10)) d_A_get_12 fl_A_28 (by decide) rfl rfl rfl ?_
    refine g_getV (x := .ref (v.2.2 11)) d_A_get_15 fl_A_118 (by decide) rfl rfl rfl ?_
    refine g_iload_n d_A_get_18 1 rfl rfl ?_
    have hi2 := h.1
    have h := h.2
    refine g_iald (x := σ1.1 11 x1.toNatClampNeg) d_A_get_19 (by decide) rfl hi2 rfl ?_
    refine g_goto (tgt := 24) d_A_get_20 rfl ?_
    exact g_sub [] rfl h
set_option maxRecDepth 20000 in
set_option maxHeartbeats 1000000 in
theorem T_A_get_24 {l : Launch} {v : gs_V} {n : Nat} {post : Int32 → gs_S → Prop} {σ : gs_S} {s0 : Int32} (h : post s0 σ) : G_A_get_24 l v n post σ s0 := by
  exact g_iret d_A_get_24 rfl h
theorem E_A_get {l : Launch} {v : gs_V} {n : Nat} {post : Int32 → gs_S → Prop} {σ : gs_S} {x1 : Int32} (h : G_A_get_0 l v n post σ x1) : gM l v lyC 42 me_A_get (n + 1) [.ref (v.2.2 0), .int x1] σ (qI v lyC 42 post) := gM_of (by decide +kernel) (Nat.le_of_ble_eq_true rfl) h
/-! LineRules.injective -/
theorem d_A_injective_0 : decode me_A_injective.2.1 0 = .ok (.aload_n 0, 1) := by decide +kernel
theorem d_A_injective_1 : decode me_A_injective.2.1 1 = .ok (.getfield 19, 3) := by decide +kernel
theorem d_A_injective_4 : decode me_A_injective.2.1 4 = .ok (.getfield 93, 3) := by decide +kernel
theorem d_A_injective_7 : decode me_A_injective.2.1 7 = .ok (.ifCond .ne 5, 3) := by decide +kernel
theorem d_A_injective_10 : decode me_A_injective.2.1 10 = .ok (.iconst (-1), 1) := by decide +kernel
theorem d_A_injective_11 : decode me_A_injective.2.1 11 = .ok (.ireturn, 1) := by decide +kernel
theorem d_A_injective_12 : decode me_A_injective.2.1 12 = .ok (.aload_n 0, 1) := by decide +kernel
theorem d_A_injective_13 : decode me_A_injective.2.1 13 = .ok (.getfield 35, 3) := by decide +kernel
theorem d_A_injective_16 : decode me_A_injective.2.1 16 = .ok (.invokevirtual 131, 3) := by decide +kernel
theorem d_A_injective_19 : decode me_A_injective.2.1 19 = .ok (.ifCond .eq 7, 3) := by decide +kernel
theorem d_A_injective_22 : decode me_A_injective.2.1 22 = .ok (.iconst 1, 1) := by decide +kernel
theorem d_A_injective_23 : decode me_A_injective.2.1 23 = .ok (.goto 4, 3) := by decide +kernel
theorem d_A_injective_26 : decode me_A_injective.2.1 26 = .ok (.iconst 0, 1) := by decide +kernel
theorem d_A_injective_27 : decode me_A_injective.2.1 27 = .ok (.ireturn, 1) := by decide +kernel
abbrev G_A_injective_0 (l : Launch) (v : gs_V) (n : Nat) (post : Int32 → gs_S → Prop) (σ : gs_S) : Prop := gG l v lyC 42 me_A_injective n (qI v lyC 42 post) 0 [(0, .ref (v.2.2 0))] [] σ
abbrev G_A_injective_27 (l : Launch) (v : gs_V) (n : Nat) (post : Int32 → gs_S → Prop) (σ : gs_S) (s0 : Int32) : Prop := gG l v lyC 42 me_A_injective n (qI v lyC 42 post) 27 [] [.int s0] σ
set_option maxRecDepth 20000 in
set_option maxHeartbeats 1000000 in
theorem T_A_injective_0 {l : Launch} {v : gs_V} {n : Nat} {post : Int32 → gs_S → Prop} {σ : gs_S} (h : ((¬ (σ.1 4 5) = 0 → gM l v lyC 42 me_P_losesNothing n [.ref (v.2.2 14)] σ (qI v lyC 42 (fun r1 σ1 => ((r1 = 0 → G_A_injective_27 l v n post σ1 0) ∧ (¬ r1 = 0 → G_A_injective_27 l v n post σ1 1))))) ∧ ((σ.1 4 5) = 0 → post ((-1)) σ))) : G_A_injective_0 l v n post σ := by
  refine g_aload_n d_A_injective_0 0 rfl rfl ?_
  refine g_getV (x := .ref (v.2.2 4)) d_A_injective_1 fl_A_19 (by decide) rfl rfl rfl ?_
  refine g_getV (x := .int (σ.1 4 5)) d_A_injective_4 fl_A_93 (by decide) rfl rfl rfl ?_
  refine g_if_ne (tgt := 12) d_A_injective_7 rfl (fun hc => ?_) (fun hc => ?_)
  · have h := h.1 hc
    refine g_aload_n d_A_injective_12 0 rfl rfl ?_
    refine g_getV (x := .ref (v.2.2 14)) d_A_injective_13 fl_A_35 (by decide) rfl rfl rfl ?_
    refine g_callVi (av := []) (rest := []) d_A_injective_16 Y_P_losesNothing lk_A_131 (by decide) rfl rfl I_P_losesNothing rfl (Nat.le_of_ble_eq_true rfl) rfl h (fun r1 σ1 h => ?_)
    refine g_if_eq (tgt := 26) d_A_injective_19 rfl (fun hc => ?_) (fun hc => ?_)
    · have h := h.1 hc
      refine g_iconst d_A_injective_26 (x := 0) (by decide) ?_
      exact g_sub [] rfl h
    · have h := h.2 hc
      refine g_iconst d_A_injective_22 (x := 1) (by decide) ?_
      refine g_goto (tgt := 27) d_A_injective_23 rfl ?_
      exact g_sub [] rfl h
  · have h := h.2 hc
    refine g_iconst d_A_injective_10 (x := (-1)) (by decide) ?_
    exact g_iret d_A_injective_11 rfl h
set_option maxRecDepth 20000 in
set_option maxHeartbeats 1000000 in
theorem T_A_injective_27 {l : Launch} {v : gs_V} {n : Nat} {post : Int32 → gs_S → Prop} {σ : gs_S} {s0 : Int32} (h : post s0 σ) : G_A_injective_27 l v n post σ s0 := by
  exact g_iret d_A_injective_27 rfl h
theorem E_A_injective {l : Launch} {v : gs_V} {n : Nat} {post : Int32 → gs_S → Prop} {σ : gs_S} (h : G_A_injective_0 l v n post σ) : gM l v lyC 42 me_A_injective (n + 1) [.ref (v.2.2 0)] σ (qI v lyC 42 post) := gM_of (by decide +kernel) (Nat.le_of_ble_eq_true rfl) h
/-! LineRules.inverse -/
theorem d_A_inverse_0 : decode me_A_inverse.2.1 0 = .ok (.aload_n 0, 1) := by decide +kernel
theorem d_A_inverse_1 : decode me_A_inverse.2.1 1 = .ok (.getfield 19, 3) := by decide +kernel
theorem d_A_inverse_4 : decode me_A_inverse.2.1 4 = .ok (.getfield 93, 3) := by decide +kernel
theorem d_A_inverse_7 : decode me_A_inverse.2.1 7 = .ok (.ifCond .eq 12, 3) := by decide +kernel
theorem d_A_inverse_10 : decode me_A_inverse.2.1 10 = .ok (.iload_n 1, 1) := by decide +kernel
theorem d_A_inverse_11 : decode me_A_inverse.2.1 11 = .ok (.ifCond .lt 8, 3) := by decide +kernel
theorem d_A_inverse_14 : decode me_A_inverse.2.1 14 = .ok (.iload_n 1, 1) := by decide +kernel
theorem d_A_inverse_15 : decode me_A_inverse.2.1 15 = .ok (.iconst 1, 1) := by decide +kernel
theorem d_A_inverse_16 : decode me_A_inverse.2.1 16 = .ok (.if_icmp .le 5, 3) := by decide +kernel
theorem d_A_inverse_19 : decode me_A_inverse.2.1 19 = .ok (.iconst (-1), 1) := by decide +kernel
theorem d_A_inverse_20 : decode me_A_inverse.2.1 20 = .ok (.ireturn, 1) := by decide +kernel
theorem d_A_inverse_21 : decode me_A_inverse.2.1 21 = .ok (.iload_n 1, 1) := by decide +kernel
theorem d_A_inverse_22 : decode me_A_inverse.2.1 22 = .ok (.ifCond .ne 13, 3) := by decide +kernel
theorem d_A_inverse_25 : decode me_A_inverse.2.1 25 = .ok (.aload_n 0, 1) := by decide +kernel
theorem d_A_inverse_26 : decode me_A_inverse.2.1 26 = .ok (.getfield 44, 3) := by decide +kernel
theorem d_A_inverse_29 : decode me_A_inverse.2.1 29 = .ok (.invokevirtual 134, 3) := by decide +kernel
theorem d_A_inverse_32 : decode me_A_inverse.2.1 32 = .ok (.goto 10, 3) := by decide +kernel
theorem d_A_inverse_35 : decode me_A_inverse.2.1 35 = .ok (.aload_n 0, 1) := by decide +kernel
theorem d_A_inverse_36 : decode me_A_inverse.2.1 36 = .ok (.getfield 44, 3) := by decide +kernel
theorem d_A_inverse_39 : decode me_A_inverse.2.1 39 = .ok (.invokevirtual 138, 3) := by decide +kernel
theorem d_A_inverse_42 : decode me_A_inverse.2.1 42 = .ok (.ireturn, 1) := by decide +kernel
abbrev G_A_inverse_0 (l : Launch) (v : gs_V) (n : Nat) (post : Int32 → gs_S → Prop) (σ : gs_S) (x1 : Int32) : Prop := gG l v lyC 42 me_A_inverse n (qI v lyC 42 post) 0 [(0, .ref (v.2.2 0)), (1, .int x1)] [] σ
abbrev G_A_inverse_19 (l : Launch) (v : gs_V) (n : Nat) (post : Int32 → gs_S → Prop) (σ : gs_S) : Prop := gG l v lyC 42 me_A_inverse n (qI v lyC 42 post) 19 [] [] σ
abbrev G_A_inverse_42 (l : Launch) (v : gs_V) (n : Nat) (post : Int32 → gs_S → Prop) (σ : gs_S) (s0 : Int32) : Prop := gG l v lyC 42 me_A_inverse n (qI v lyC 42 post) 42 [] [.int s0] σ
set_option maxRecDepth 20000 in
set_option maxHeartbeats 1000000 in
theorem T_A_inverse_0 {l : Launch} {v : gs_V} {n : Nat} {post : Int32 → gs_S → Prop} {σ : gs_S} {x1 : Int32} (h : (((σ.1 4 5) = 0 → G_A_inverse_19 l v n post σ) ∧ (¬ (σ.1 4 5) = 0 → ((x1 < 0 → G_A_inverse_19 l v n post σ) ∧ (¬ x1 < 0 → ((x1 ≤ 1 → ((¬ x1 = 0 → gM l v lyC 42 me_V_place n [.ref (v.2.2 17)] σ (qI v lyC 42 (fun r1 σ1 => G_A_inverse_42 l v n post σ1 r1))) ∧ (x1 = 0 → gM l v lyC 42 me_V_width n [.ref (v.2.2 17)] σ (qI v lyC 42 (fun r2 σ2 => G_A_inverse_42 l v n post σ2 r2))))) ∧ (¬ x1 ≤ 1 → G_A_inverse_19 l v n post σ))))))) : G_A_inverse_0 l v n post σ x1 := by
  refine g_aload_n d_A_inverse_0 0 rfl rfl ?_
  refine g_getV (x := .ref (v.2.2 4)) d_A_inverse_1 fl_A_19 (by decide) rfl rfl rfl ?_
  refine g_getV (x := .int (σ.1 4 5)) d_A_inverse_4 fl_A_93 (by decide) rfl rfl rfl ?_
  refine g_if_eq (tgt := 19) d_A_inverse_7 rfl (fun hc => ?_) (fun hc => ?_)
  · have h := h.1 hc
    exact g_sub [] rfl h
  · have h := h.2 hc
    refine g_iload_n d_A_inverse_10 1 rfl rfl ?_
    refine g_if_lt (tgt := 19) d_A_inverse_11 rfl (fun hc => ?_) (fun hc => ?_)
    · have h := h.1 hc
      exact g_sub [] rfl h
    · have h := h.2 hc
      refine g_iload_n d_A_inverse_14 1 rfl rfl ?_
      refine g_iconst d_A_inverse_15 (x := 1) (by decide) ?_
      refine g_icmp_le (tgt := 21) d_A_inverse_16 rfl (fun hc => ?_) (fun hc => ?_)
      · have h := h.1 hc
        refine g_iload_n d_A_inverse_21 1 rfl rfl ?_
        refine g_if_ne (tgt := 35) d_A_inverse_22 rfl (fun hc => ?_) (fun hc => ?_)
        · have h := h.1 hc
          refine g_aload_n d_A_inverse_35 0 rfl rfl ?_
          refine g_getV (x := .ref (v.2.2 17)) d_A_inverse_36 fl_A_44 (by decide) rfl rfl rfl ?_
          refine g_callVi (av := []) (rest := []) d_A_inverse_39 Y_V_place lk_A_138 (by decide) rfl rfl I_V_place rfl (Nat.le_of_ble_eq_true rfl) rfl h (fun r1 σ1 h => ?_)
          exact g_sub [] rfl h
        · have h := h.2 hc
          refine g_aload_n d_A_inverse_25 0 rfl rfl ?_
          refine g_getV (x := .ref (v.2.2 17)) d_A_inverse_26 fl_A_44 (by decide) rfl rfl rfl ?_
          refine g_callVi (av := []) (rest := []) d_A_inverse_29 Y_V_width lk_A_134 (by decide) rfl rfl I_V_width rfl (Nat.le_of_ble_eq_true rfl) rfl h (fun r2 σ2 h => ?_)
          refine g_goto (tgt := 42) d_A_inverse_32 rfl ?_
          exact g_sub [] rfl h
      · have h := h.2 hc
        exact g_sub [] rfl h
set_option maxRecDepth 20000 in
set_option maxHeartbeats 1000000 in
theorem T_A_inverse_19 {l : Launch} {v : gs_V} {n : Nat} {post : Int32 → gs_S → Prop} {σ : gs_S} (h : post ((-1)) σ) : G_A_inverse_19 l v n post σ := by
  refine g_iconst d_A_inverse_19 (x := (-1)) (by decide) ?_
  exact g_iret d_A_inverse_20 rfl h
set_option maxRecDepth 20000 in
set_option maxHeartbeats 1000000 in
theorem T_A_inverse_42 {l : Launch} {v : gs_V} {n : Nat} {post : Int32 → gs_S → Prop} {σ : gs_S} {s0 : Int32} (h : post s0 σ) : G_A_inverse_42 l v n post σ s0 := by
  exact g_iret d_A_inverse_42 rfl h
theorem E_A_inverse {l : Launch} {v : gs_V} {n : Nat} {post : Int32 → gs_S → Prop} {σ : gs_S} {x1 : Int32} (h : G_A_inverse_0 l v n post σ x1) : gM l v lyC 42 me_A_inverse (n + 1) [.ref (v.2.2 0), .int x1] σ (qI v lyC 42 post) := gM_of (by decide +kernel) (Nat.le_of_ble_eq_true rfl) h
/-! LineRules.load -/
theorem d_A_load_0 : decode me_A_load.2.1 0 = .ok (.aload_n 0, 1) := by decide +kernel
theorem d_A_load_1 : decode me_A_load.2.1 1 = .ok (.getfield 10, 3) := by decide +kernel
theorem d_A_load_4 : decode me_A_load.2.1 4 = .ok (.iload_n 1, 1) := by decide +kernel
theorem d_A_load_5 : decode me_A_load.2.1 5 = .ok (.invokevirtual 71, 3) := by decide +kernel
theorem d_A_load_8 : decode me_A_load.2.1 8 = .ok (.ireturn, 1) := by decide +kernel
abbrev G_A_load_0 (l : Launch) (v : gs_V) (n : Nat) (post : Int32 → gs_S → Prop) (σ : gs_S) (x1 : Int32) : Prop := gG l v lyC 42 me_A_load n (qI v lyC 42 post) 0 [(0, .ref (v.2.2 0)), (1, .int x1)] [] σ
set_option maxRecDepth 20000 in
set_option maxHeartbeats 1000000 in
theorem T_A_load_0 {l : Launch} {v : gs_V} {n : Nat} {post : Int32 → gs_S → Prop} {σ : gs_S} {x1 : Int32} (h : gM l v lyC 42 me_T_append n [.ref (v.2.2 1), .int x1] σ (qI v lyC 42 (fun r1 σ1 => post r1 σ1))) : G_A_load_0 l v n post σ x1 := by
  refine g_aload_n d_A_load_0 0 rfl rfl ?_
  refine g_getV (x := .ref (v.2.2 1)) d_A_load_1 fl_A_10 (by decide) rfl rfl rfl ?_
  refine g_iload_n d_A_load_4 1 rfl rfl ?_
  refine g_callVi (av := [.int x1]) (rest := []) d_A_load_5 Y_T_append lk_A_71 (by decide) rfl rfl I_T_append rfl (Nat.le_of_ble_eq_true rfl) rfl h (fun r1 σ1 h => ?_)
  exact g_iret d_A_load_8 rfl h
theorem E_A_load {l : Launch} {v : gs_V} {n : Nat} {post : Int32 → gs_S → Prop} {σ : gs_S} {x1 : Int32} (h : G_A_load_0 l v n post σ x1) : gM l v lyC 42 me_A_load (n + 1) [.ref (v.2.2 0), .int x1] σ (qI v lyC 42 post) := gM_of (by decide +kernel) (Nat.le_of_ble_eq_true rfl) h
/-! LineRules.next -/
theorem d_A_next_0 : decode me_A_next.2.1 0 = .ok (.aload_n 0, 1) := by decide +kernel
theorem d_A_next_1 : decode me_A_next.2.1 1 = .ok (.getfield 19, 3) := by decide +kernel
theorem d_A_next_4 : decode me_A_next.2.1 4 = .ok (.getfield 93, 3) := by decide +kernel
theorem d_A_next_7 : decode me_A_next.2.1 7 = .ok (.ifCond .eq 18, 3) := by decide +kernel
theorem d_A_next_10 : decode me_A_next.2.1 10 = .ok (.iload_n 1, 1) := by decide +kernel
theorem d_A_next_11 : decode me_A_next.2.1 11 = .ok (.ifCond .lt 14, 3) := by decide +kernel
theorem d_A_next_14 : decode me_A_next.2.1 14 = .ok (.iload_n 1, 1) := by decide +kernel
theorem d_A_next_15 : decode me_A_next.2.1 15 = .ok (.aload_n 0, 1) := by decide +kernel
theorem d_A_next_16 : decode me_A_next.2.1 16 = .ok (.getfield 19, 3) := by decide +kernel
theorem d_A_next_19 : decode me_A_next.2.1 19 = .ok (.getfield 97, 3) := by decide +kernel
theorem d_A_next_22 : decode me_A_next.2.1 22 = .ok (.if_icmp .lt 5, 3) := by decide +kernel
theorem d_A_next_25 : decode me_A_next.2.1 25 = .ok (.iconst (-1), 1) := by decide +kernel
theorem d_A_next_26 : decode me_A_next.2.1 26 = .ok (.ireturn, 1) := by decide +kernel
theorem d_A_next_27 : decode me_A_next.2.1 27 = .ok (.aload_n 0, 1) := by decide +kernel
theorem d_A_next_28 : decode me_A_next.2.1 28 = .ok (.getfield 19, 3) := by decide +kernel
theorem d_A_next_31 : decode me_A_next.2.1 31 = .ok (.getfield 100, 3) := by decide +kernel
theorem d_A_next_34 : decode me_A_next.2.1 34 = .ok (.iload_n 1, 1) := by decide +kernel
theorem d_A_next_35 : decode me_A_next.2.1 35 = .ok (.iaload, 1) := by decide +kernel
theorem d_A_next_36 : decode me_A_next.2.1 36 = .ok (.ireturn, 1) := by decide +kernel
abbrev G_A_next_0 (l : Launch) (v : gs_V) (n : Nat) (post : Int32 → gs_S → Prop) (σ : gs_S) (x1 : Int32) : Prop := gG l v lyC 42 me_A_next n (qI v lyC 42 post) 0 [(0, .ref (v.2.2 0)), (1, .int x1)] [] σ
abbrev G_A_next_25 (l : Launch) (v : gs_V) (n : Nat) (post : Int32 → gs_S → Prop) (σ : gs_S) : Prop := gG l v lyC 42 me_A_next n (qI v lyC 42 post) 25 [] [] σ
set_option maxRecDepth 20000 in
set_option maxHeartbeats 1000000 in
theorem T_A_next_0 {l : Launch} {v : gs_V} {n : Nat} {post : Int32 → gs_S → Prop} {σ : gs_S} {x1 : Int32} (h : (((σ.1 4 5) = 0 → G_A_next_25 l v n post σ) ∧ (¬ (σ.1 4 5) = 0 → ((x1 < 0 → G_A_next_25 l v n post σ) ∧ (¬ x1 < 0 → ((x1 < (σ.1 4 8) → vp_in x1 256 ∧ post (σ.1 5 x1.toNatClampNeg) σ) ∧ (¬ x1 < (σ.1 4 8) → G_A_next_25 l v n post σ))))))) : G_A_next_0 l v n post σ x1 := by
  refine g_aload_n d_A_next_0 0 rfl rfl ?_
  refine g_getV (x := .ref (v.2.2 4)) d_A_next_1 fl_A_19 (by decide) rfl rfl rfl ?_
  refine g_getV (x := .int (σ.1 4 5)) d_A_next_4 fl_A_93 (by decide) rfl rfl rfl ?_
  refine g_if_eq (tgt := 25) d_A_next_7 rfl (fun hc => ?_) (fun hc => ?_)
  · have h := h.1 hc
    exact g_sub [] rfl h
  · have h := h.2 hc
    refine g_iload_n d_A_next_10 1 rfl rfl ?_
    refine g_if_lt (tgt := 25) d_A_next_11 rfl (fun hc => ?_) (fun hc => ?_)
    · have h := h.1 hc
      exact g_sub [] rfl h
    · have h := h.2 hc
      refine g_iload_n d_A_next_14 1 rfl rfl ?_
      refine g_aload_n d_A_next_15 0 rfl rfl ?_
      refine g_getV (x := .ref (v.2.2 4)) d_A_next_16 fl_A_19 (by decide) rfl rfl rfl ?_
      refine g_getV (x := .int (σ.1 4 8)) d_A_next_19 fl_A_97 (by decide) rfl rfl rfl ?_
      refine g_icmp_lt (tgt := 27) d_A_next_22 rfl (fun hc => ?_) (fun hc => ?_)
      · have h := h.1 hc
        refine g_aload_n d_A_next_27 0 rfl rfl ?_
        refine g_getV (x := .ref (v.2.2 4)) d_A_next_28 fl_A_19 (by decide) rfl rfl rfl ?_
        refine g_getV (x := .ref (v.2.2 5)) d_A_next_31 fl_A_100 (by decide) rfl rfl rfl ?_
        refine g_iload_n d_A_next_34 1 rfl rfl ?_
        have hi1 := h.1
        have h := h.2
        refine g_iald (x := σ.1 5 x1.toNatClampNeg) d_A_next_35 (by decide) rfl hi1 rfl ?_
        exact g_iret d_A_next_36 rfl h
      · have h := h.2 hc
        exact g_sub [] rfl h
set_option maxRecDepth 20000 in
set_option maxHeartbeats 1000000 in
theorem T_A_next_25 {l : Launch} {v : gs_V} {n : Nat} {post : Int32 → gs_S → Prop} {σ : gs_S} (h : post ((-1)) σ) : G_A_next_25 l v n post σ := by
  refine g_iconst d_A_next_25 (x := (-1)) (by decide) ?_
  exact g_iret d_A_next_26 rfl h
theorem E_A_next {l : Launch} {v : gs_V} {n : Nat} {post : Int32 → gs_S → Prop} {σ : gs_S} {x1 : Int32} (h : G_A_next_0 l v n post σ x1) : gM l v lyC 42 me_A_next (n + 1) [.ref (v.2.2 0), .int x1] σ (qI v lyC 42 post) := gM_of (by decide +kernel) (Nat.le_of_ble_eq_true rfl) h
/-! LineRules.orphan -/
theorem d_A_orphan_0 : decode me_A_orphan.2.1 0 = .ok (.aload_n 0, 1) := by decide +kernel
theorem d_A_orphan_1 : decode me_A_orphan.2.1 1 = .ok (.getfield 19, 3) := by decide +kernel
theorem d_A_orphan_4 : decode me_A_orphan.2.1 4 = .ok (.getfield 93, 3) := by decide +kernel
theorem d_A_orphan_7 : decode me_A_orphan.2.1 7 = .ok (.ifCond .eq 13, 3) := by decide +kernel
theorem d_A_orphan_10 : decode me_A_orphan.2.1 10 = .ok (.aload_n 0, 1) := by decide +kernel
theorem d_A_orphan_11 : decode me_A_orphan.2.1 11 = .ok (.getfield 58, 3) := by decide +kernel
theorem d_A_orphan_14 : decode me_A_orphan.2.1 14 = .ok (.invokevirtual 150, 3) := by decide +kernel
theorem d_A_orphan_17 : decode me_A_orphan.2.1 17 = .ok (.goto 4, 3) := by decide +kernel
theorem d_A_orphan_20 : decode me_A_orphan.2.1 20 = .ok (.iconst (-1), 1) := by decide +kernel
theorem d_A_orphan_21 : decode me_A_orphan.2.1 21 = .ok (.ireturn, 1) := by decide +kernel
abbrev G_A_orphan_0 (l : Launch) (v : gs_V) (n : Nat) (post : Int32 → gs_S → Prop) (σ : gs_S) : Prop := gG l v lyC 42 me_A_orphan n (qI v lyC 42 post) 0 [(0, .ref (v.2.2 0))] [] σ
abbrev G_A_orphan_21 (l : Launch) (v : gs_V) (n : Nat) (post : Int32 → gs_S → Prop) (σ : gs_S) (s0 : Int32) : Prop := gG l v lyC 42 me_A_orphan n (qI v lyC 42 post) 21 [] [.int s0] σ
set_option maxRecDepth 20000 in
set_option maxHeartbeats 1000000 in
theorem T_A_orphan_0 {l : Launch} {v : gs_V} {n : Nat} {post : Int32 → gs_S → Prop} {σ : gs_S} (h : (((σ.1 4 5) = 0 → G_A_orphan_21 l v n post σ ((-1))) ∧ (¬ (σ.1 4 5) = 0 → gM l v lyC 42 me_O_length n [.ref (v.2.2 31)] σ (qI v lyC 42 (fun r1 σ1 => G_A_orphan_21 l v n post σ1 r1))))) : G_A_orphan_0 l v n post σ := by
  refine g_aload_n d_A_orphan_0 0 rfl rfl ?_
  refine g_getV (x := .ref (v.2.2 4)) d_A_orphan_1 fl_A_19 (by decide) rfl rfl rfl ?_
  refine g_getV (x := .int (σ.1 4 5)) d_A_orphan_4 fl_A_93 (by decide) rfl rfl rfl ?_
  refine g_if_eq (tgt := 20) d_A_orphan_7 rfl (fun hc => ?_) (fun hc => ?_)
  · have h := h.1 hc
    refine g_iconst d_A_orphan_20 (x := (-1)) (by decide) ?_
    exact g_sub [] rfl h
  · have h := h.2 hc
    refine g_aload_n d_A_orphan_10 0 rfl rfl ?_
    refine g_getV (x := .ref (v.2.2 31)) d_A_orphan_11 fl_A_58 (by decide) rfl rfl rfl ?_
    refine g_callVi (av := []) (rest := []) d_A_orphan_14 Y_O_length lk_A_150 (by decide) rfl rfl I_O_length rfl (Nat.le_of_ble_eq_true rfl) rfl h (fun r1 σ1 h => ?_)
    refine g_goto (tgt := 21) d_A_orphan_17 rfl ?_
    exact g_sub [] rfl h
set_option maxRecDepth 20000 in
set_option maxHeartbeats 1000000 in
theorem T_A_orphan_21 {l : Launch} {v : gs_V} {n : Nat} {post : Int32 → gs_S → Prop} {σ : gs_S} {s0 : Int32} (h : post s0 σ) : G_A_orphan_21 l v n post σ s0 := by
  exact g_iret d_A_orphan_21 rfl h
theorem E_A_orphan {l : Launch} {v : gs_V} {n : Nat} {post : Int32 → gs_S → Prop} {σ : gs_S} (h : G_A_orphan_0 l v n post σ) : gM l v lyC 42 me_A_orphan (n + 1) [.ref (v.2.2 0)] σ (qI v lyC 42 post) := gM_of (by decide +kernel) (Nat.le_of_ble_eq_true rfl) h
/-! LineRules.orphanAt -/
theorem d_A_orphanAt_0 : decode me_A_orphanAt.2.1 0 = .ok (.aload_n 0, 1) := by decide +kernel
theorem d_A_orphanAt_1 : decode me_A_orphanAt.2.1 1 = .ok (.getfield 19, 3) := by decide +kernel
theorem d_A_orphanAt_4 : decode me_A_orphanAt.2.1 4 = .ok (.getfield 93, 3) := by decide +kernel
theorem d_A_orphanAt_7 : decode me_A_orphanAt.2.1 7 = .ok (.ifCond .eq 14, 3) := by decide +kernel
theorem d_A_orphanAt_10 : decode me_A_orphanAt.2.1 10 = .ok (.aload_n 0, 1) := by decide +kernel
theorem d_A_orphanAt_11 : decode me_A_orphanAt.2.1 11 = .ok (.getfield 58, 3) := by decide +kernel
theorem d_A_orphanAt_14 : decode me_A_orphanAt.2.1 14 = .ok (.iload_n 1, 1) := by decide +kernel
theorem d_A_orphanAt_15 : decode me_A_orphanAt.2.1 15 = .ok (.invokevirtual 153, 3) := by decide +kernel
theorem d_A_orphanAt_18 : decode me_A_orphanAt.2.1 18 = .ok (.goto 4, 3) := by decide +kernel
theorem d_A_orphanAt_21 : decode me_A_orphanAt.2.1 21 = .ok (.iconst (-1), 1) := by decide +kernel
theorem d_A_orphanAt_22 : decode me_A_orphanAt.2.1 22 = .ok (.ireturn, 1) := by decide +kernel
abbrev G_A_orphanAt_0 (l : Launch) (v : gs_V) (n : Nat) (post : Int32 → gs_S → Prop) (σ : gs_S) (x1 : Int32) : Prop := gG l v lyC 42 me_A_orphanAt n (qI v lyC 42 post) 0 [(0, .ref (v.2.2 0)), (1, .int x1)] [] σ
abbrev G_A_orphanAt_22 (l : Launch) (v : gs_V) (n : Nat) (post : Int32 → gs_S → Prop) (σ : gs_S) (s0 : Int32) : Prop := gG l v lyC 42 me_A_orphanAt n (qI v lyC 42 post) 22 [] [.int s0] σ
set_option maxRecDepth 20000 in
set_option maxHeartbeats 1000000 in
theorem T_A_orphanAt_0 {l : Launch} {v : gs_V} {n : Nat} {post : Int32 → gs_S → Prop} {σ : gs_S} {x1 : Int32} (h : (((σ.1 4 5) = 0 → G_A_orphanAt_22 l v n post σ ((-1))) ∧ (¬ (σ.1 4 5) = 0 → gM l v lyC 42 me_O_cell n [.ref (v.2.2 31), .int x1] σ (qI v lyC 42 (fun r1 σ1 => G_A_orphanAt_22 l v n post σ1 r1))))) : G_A_orphanAt_0 l v n post σ x1 := by
  refine g_aload_n d_A_orphanAt_0 0 rfl rfl ?_
  refine g_getV (x := .ref (v.2.2 4)) d_A_orphanAt_1 fl_A_19 (by decide) rfl rfl rfl ?_
  refine g_getV (x := .int (σ.1 4 5)) d_A_orphanAt_4 fl_A_93 (by decide) rfl rfl rfl ?_
  refine g_if_eq (tgt := 21) d_A_orphanAt_7 rfl (fun hc => ?_) (fun hc => ?_)
  · have h := h.1 hc
    refine g_iconst d_A_orphanAt_21 (x := (-1)) (by decide) ?_
    exact g_sub [] rfl h
  · have h := h.2 hc
    refine g_aload_n d_A_orphanAt_10 0 rfl rfl ?_
    refine g_getV (x := .ref (v.2.2 31)) d_A_orphanAt_11 fl_A_58 (by decide) rfl rfl rfl ?_
    refine g_iload_n d_A_orphanAt_14 1 rfl rfl ?_
    refine g_callVi (av := [.int x1]) (rest := []) d_A_orphanAt_15 Y_O_cell lk_A_153 (by decide) rfl rfl I_O_cell rfl (Nat.le_of_ble_eq_true rfl) rfl h (fun r1 σ1 h => ?_)
    refine g_goto (tgt := 22) d_A_orphanAt_18 rfl ?_
    exact g_sub [] rfl h
set_option maxRecDepth 20000 in
set_option maxHeartbeats 1000000 in
theorem T_A_orphanAt_22 {l : Launch} {v : gs_V} {n : Nat} {post : Int32 → gs_S → Prop} {σ : gs_S} {s0 : Int32} (h : post s0 σ) : G_A_orphanAt_22 l v n post σ s0 := by
  exact g_iret d_A_orphanAt_22 rfl h
theorem E_A_orphanAt {l : Launch} {v : gs_V} {n : Nat} {post : Int32 → gs_S → Prop} {σ : gs_S} {x1 : Int32} (h : G_A_orphanAt_0 l v n post σ x1) : gM l v lyC 42 me_A_orphanAt (n + 1) [.ref (v.2.2 0), .int x1] σ (qI v lyC 42 post) := gM_of (by decide +kernel) (Nat.le_of_ble_eq_true rfl) h
/-! LineRules.population -/
theorem d_A_population_0 : decode me_A_population.2.1 0 = .ok (.aload_n 0, 1) := by decide +kernel
theorem d_A_population_1 : decode me_A_population.2.1 1 = .ok (.getfield 19, 3) := by decide +kernel
theorem d_A_population_4 : decode me_A_population.2.1 4 = .ok (.getfield 93, 3) := by decide +kernel
theorem d_A_population_7 : decode me_A_population.2.1 7 = .ok (.ifCond .eq 14, 3) := by decide +kernel
theorem d_A_population_10 : decode me_A_population.2.1 10 = .ok (.aload_n 0, 1) := by decide +kernel
theorem d_A_population_11 : decode me_A_population.2.1 11 = .ok (.getfield 19, 3) := by decide +kernel
theorem d_A_population_14 : decode me_A_population.2.1 14 = .ok (.iload_n 1, 1) := by decide +kernel
theorem d_A_population_15 : decode me_A_population.2.1 15 = .ok (.invokevirtual 115, 3) := by decide +kernel
theorem d_A_population_18 : decode me_A_population.2.1 18 = .ok (.ifCond .ne 5, 3) := by decide +kernel
theorem d_A_population_21 : decode me_A_population.2.1 21 = .ok (.iconst (-1), 1) := by decide +kernel
theorem d_A_population_22 : decode me_A_population.2.1 22 = .ok (.ireturn, 1) := by decide +kernel
theorem d_A_population_23 : decode me_A_population.2.1 23 = .ok (.aload_n 0, 1) := by decide +kernel
theorem d_A_population_24 : decode me_A_population.2.1 24 = .ok (.getfield 28, 3) := by decide +kernel
theorem d_A_population_27 : decode me_A_population.2.1 27 = .ok (.iload_n 1, 1) := by decide +kernel
theorem d_A_population_28 : decode me_A_population.2.1 28 = .ok (.invokevirtual 124, 3) := by decide +kernel
theorem d_A_population_31 : decode me_A_population.2.1 31 = .ok (.ireturn, 1) := by decide +kernel
abbrev G_A_population_0 (l : Launch) (v : gs_V) (n : Nat) (post : Int32 → gs_S → Prop) (σ : gs_S) (x1 : Int32) : Prop := gG l v lyC 42 me_A_population n (qI v lyC 42 post) 0 [(0, .ref (v.2.2 0)), (1, .int x1)] [] σ
abbrev G_A_population_21 (l : Launch) (v : gs_V) (n : Nat) (post : Int32 → gs_S → Prop) (σ : gs_S) : Prop := gG l v lyC 42 me_A_population n (qI v lyC 42 post) 21 [] [] σ
set_option maxRecDepth 20000 in
set_option maxHeartbeats 1000000 in
theorem T_A_population_0 {l : Launch} {v : gs_V} {n : Nat} {post : Int32 → gs_S → Prop} {σ : gs_S} {x1 : Int32} (h : (((σ.1 4 5) = 0 → G_A_population_21 l v n post σ) ∧ (¬ (σ.1 4 5) = 0 → gM l v lyC 42 me_R_hasState n [.ref (v.2.2 4), .int x1] σ (qI v lyC 42 (fun r1 σ1 => ((¬ r1 = 0 → gM l v lyC 42 me_C_countOf n [.ref (v.2.2 10), .int x1] σ1 (qI v lyC 42 (fun r2 σ2 => post r2 σ2))) ∧ (r1 = 0 → G_A_population_21 l v n post σ1))))))) : G_A_population_0 l v n post σ x1 := by
  refine g_aload_n d_A_population_0 0 rfl rfl ?_
  refine g_getV (x := .ref (v.2.2 4)) d_A_population_1 fl_A_19 (by decide) rfl rfl rfl ?_
  refine g_getV (x := .int (σ.1 4 5)) d_A_population_4 fl_A_93 (by decide) rfl rfl rfl ?_
  refine g_if_eq (tgt := 21) d_A_population_7 rfl (fun hc => ?_) (fun hc => ?_)
  · have h := h.1 hc
    exact g_sub [] rfl h
  · have h := h.2 hc
    refine g_aload_n d_A_population_10 0 rfl rfl ?_
    refine g_getV (x := .ref (v.2.2 4)) d_A_population_11 fl_A_19 (by decide) rfl rfl rfl ?_
    refine g_iload_n d_A_population_14 1 rfl rfl ?_
    refine g_callVi (av := [.int x1]) (rest := []) d_A_population_15 Y_R_hasState lk_A_115 (by decide) rfl rfl I_R_hasState rfl (Nat.le_of_ble_eq_true rfl) rfl h (fun r1 σ1 h => ?_)
    refine g_if_ne (tgt := 23) d_A_population_18 rfl (fun hc => ?_) (fun hc => ?_)
    · have h := h.1 hc
      refine g_aload_n d_A_population_23 0 rfl rfl ?_
      refine g_getV (x := .ref (v.2.2 10)) d_A_population_24 fl_A_28 (by decide) rfl rfl rfl ?_
      refine g_iload_n d_A_population_27 1 rfl rfl ?_
      refine g_callVi (av := [.int x1]) (rest := []) d_A_population_28 Y_C_countOf lk_A_124 (by decide) rfl rfl I_C_countOf rfl (Nat.le_of_ble_eq_true rfl) rfl h (fun r2 σ2 h => ?_)
      exact g_iret d_A_population_31 rfl h
    · have h := h.2 hc
      exact g_sub [] rfl h
set_option maxRecDepth 20000 in
set_option maxHeartbeats 1000000 in
theorem T_A_population_21 {l : Launch} {v : gs_V} {n : Nat} {post : Int32 → gs_S → Prop} {σ : gs_S} (h : post ((-1)) σ) : G_A_population_21 l v n post σ := by
  refine g_iconst d_A_population_21 (x := (-1)) (by decide) ?_
  exact g_iret d_A_population_22 rfl h
theorem E_A_population {l : Launch} {v : gs_V} {n : Nat} {post : Int32 → gs_S → Prop} {σ : gs_S} {x1 : Int32} (h : G_A_population_0 l v n post σ x1) : gM l v lyC 42 me_A_population (n + 1) [.ref (v.2.2 0), .int x1] σ (qI v lyC 42 post) := gM_of (by decide +kernel) (Nat.le_of_ble_eq_true rfl) h
/-! LineRules.power -/
theorem d_A_power_0 : decode me_A_power.2.1 0 = .ok (.iconst 1, 1) := by decide +kernel
theorem d_A_power_1 : decode me_A_power.2.1 1 = .ok (.istore_n 2, 1) := by decide +kernel
theorem d_A_power_2 : decode me_A_power.2.1 2 = .ok (.iconst 0, 1) := by decide +kernel
theorem d_A_power_3 : decode me_A_power.2.1 3 = .ok (.istore_n 3, 1) := by decide +kernel
theorem d_A_power_4 : decode me_A_power.2.1 4 = .ok (.iload_n 3, 1) := by decide +kernel
theorem d_A_power_5 : decode me_A_power.2.1 5 = .ok (.iload_n 1, 1) := by decide +kernel
theorem d_A_power_6 : decode me_A_power.2.1 6 = .ok (.if_icmp .ge 13, 3) := by decide +kernel
theorem d_A_power_9 : decode me_A_power.2.1 9 = .ok (.iload_n 2, 1) := by decide +kernel
theorem d_A_power_10 : decode me_A_power.2.1 10 = .ok (.iload_n 0, 1) := by decide +kernel
theorem d_A_power_11 : decode me_A_power.2.1 11 = .ok (.imul, 1) := by decide +kernel
theorem d_A_power_12 : decode me_A_power.2.1 12 = .ok (.istore_n 2, 1) := by decide +kernel
theorem d_A_power_13 : decode me_A_power.2.1 13 = .ok (.iinc 3 1, 3) := by decide +kernel
theorem d_A_power_16 : decode me_A_power.2.1 16 = .ok (.goto (-12), 3) := by decide +kernel
theorem d_A_power_19 : decode me_A_power.2.1 19 = .ok (.iload_n 2, 1) := by decide +kernel
theorem d_A_power_20 : decode me_A_power.2.1 20 = .ok (.ireturn, 1) := by decide +kernel
abbrev G_A_power_0 (l : Launch) (v : gs_V) (n : Nat) (post : Int32 → gs_S → Prop) (σ : gs_S) (x0 : Int32) (x1 : Int32) : Prop := gG l v lyC 42 me_A_power n (qI v lyC 42 post) 0 [(0, .int x0), (1, .int x1)] [] σ
abbrev G_A_power_4 (l : Launch) (v : gs_V) (n : Nat) (post : Int32 → gs_S → Prop) (σ : gs_S) (x0 : Int32) (x1 : Int32) (x2 : Int32) (x3 : Int32) : Prop := gG l v lyC 42 me_A_power n (qI v lyC 42 post) 4 [(0, .int x0), (1, .int x1), (2, .int x2), (3, .int x3)] [] σ
set_option maxRecDepth 20000 in
set_option maxHeartbeats 1000000 in
theorem T_A_power_0 {l : Launch} {v : gs_V} {n : Nat} {post : Int32 → gs_S → Prop} {σ : gs_S} {x0 : Int32} {x1 : Int32} (h : G_A_power_4 l v n post σ x0 x1 1 0) : G_A_power_0 l v n post σ x0 x1 := by
  refine g_iconst d_A_power_0 (x := 1) (by decide) ?_
  refine g_istore_n (L' := [(2, .int 1), (0, .int x0), (1, .int x1)]) d_A_power_1 rfl (by decide) rfl ?_
  refine g_iconst d_A_power_2 (x := 0) (by decide) ?_
  refine g_istore_n (L' := [(3, .int 0), (2, .int 1), (0, .int x0), (1, .int x1)]) d_A_power_3 rfl (by decide) rfl ?_
  exact g_sub [2, 3, 1, 0] rfl h
set_option maxRecDepth 20000 in
set_option maxHeartbeats 1000000 in
theorem T_A_power_4 {l : Launch} {v : gs_V} {n : Nat} {post : Int32 → gs_S → Prop} {σ : gs_S} {x0 : Int32} {x1 : Int32} {x2 : Int32} {x3 : Int32} (h : ((x1 ≤ x3 → post x2 σ) ∧ (¬ x1 ≤ x3 → G_A_power_4 l v n post σ x0 x1 (x2 * x0) (x3 + 1)))) : G_A_power_4 l v n post σ x0 x1 x2 x3 := by
  refine g_iload_n d_A_power_4 3 rfl rfl ?_
  refine g_iload_n d_A_power_5 1 rfl rfl ?_
  refine g_icmp_ge (tgt := 19) d_A_power_6 rfl (fun hc => ?_) (fun hc => ?_)
  · have h := h.1 hc
    refine g_iload_n d_A_power_19 2 rfl rfl ?_
    exact g_iret d_A_power_20 rfl h
  · have h := h.2 hc
    refine g_iload_n d_A_power_9 2 rfl rfl ?_
    refine g_iload_n d_A_power_10 0 rfl rfl ?_
    refine g_imul d_A_power_11 ?_
    refine g_istore_n (L' := [(2, .int (x2 * x0)), (0, .int x0), (1, .int x1), (3, .int x3)]) d_A_power_12 rfl (by decide) rfl ?_
    refine g_iinc (L' := [(3, .int (x3 + 1)), (2, .int (x2 * x0)), (0, .int x0), (1, .int x1)]) d_A_power_13 3 rfl (by rfl) (by decide) rfl ?_
    refine g_goto (tgt := 4) d_A_power_16 rfl ?_
    exact g_sub [2, 3, 1, 0] rfl h
theorem E_A_power {l : Launch} {v : gs_V} {n : Nat} {post : Int32 → gs_S → Prop} {σ : gs_S} {x0 : Int32} {x1 : Int32} (h : G_A_power_0 l v n post σ x0 x1) : gM l v lyC 42 me_A_power (n + 1) [.int x0, .int x1] σ (qI v lyC 42 post) := gM_of (by decide +kernel) (Nat.le_of_ble_eq_true rfl) h
/-! LineRules.ring -/
theorem d_A_ring_0 : decode me_A_ring.2.1 0 = .ok (.iload_n 1, 1) := by decide +kernel
theorem d_A_ring_1 : decode me_A_ring.2.1 1 = .ok (.iconst 1, 1) := by decide +kernel
theorem d_A_ring_2 : decode me_A_ring.2.1 2 = .ok (.if_icmp .lt 9, 3) := by decide +kernel
theorem d_A_ring_5 : decode me_A_ring.2.1 5 = .ok (.iload_n 1, 1) := by decide +kernel
theorem d_A_ring_6 : decode me_A_ring.2.1 6 = .ok (.bipush 64, 2) := by decide +kernel
theorem d_A_ring_8 : decode me_A_ring.2.1 8 = .ok (.if_icmp .le 5, 3) := by decide +kernel
theorem d_A_ring_11 : decode me_A_ring.2.1 11 = .ok (.iconst (-1), 1) := by decide +kernel
theorem d_A_ring_12 : decode me_A_ring.2.1 12 = .ok (.ireturn, 1) := by decide +kernel
theorem d_A_ring_13 : decode me_A_ring.2.1 13 = .ok (.aload_n 0, 1) := by decide +kernel
theorem d_A_ring_14 : decode me_A_ring.2.1 14 = .ok (.getfield 28, 3) := by decide +kernel
theorem d_A_ring_17 : decode me_A_ring.2.1 17 = .ok (.getfield 104, 3) := by decide +kernel
theorem d_A_ring_20 : decode me_A_ring.2.1 20 = .ok (.istore_n 2, 1) := by decide +kernel
theorem d_A_ring_21 : decode me_A_ring.2.1 21 = .ok (.aload_n 0, 1) := by decide +kernel
theorem d_A_ring_22 : decode me_A_ring.2.1 22 = .ok (.getfield 28, 3) := by decide +kernel
theorem d_A_ring_25 : decode me_A_ring.2.1 25 = .ok (.iload_n 1, 1) := by decide +kernel
theorem d_A_ring_26 : decode me_A_ring.2.1 26 = .ok (.invokevirtual 107, 3) := by decide +kernel
theorem d_A_ring_29 : decode me_A_ring.2.1 29 = .ok (.aload_n 0, 1) := by decide +kernel
theorem d_A_ring_30 : decode me_A_ring.2.1 30 = .ok (.getfield 67, 3) := by decide +kernel
theorem d_A_ring_33 : decode me_A_ring.2.1 33 = .ok (.invokevirtual 88, 3) := by decide +kernel
theorem d_A_ring_36 : decode me_A_ring.2.1 36 = .ok (.iload_n 2, 1) := by decide +kernel
theorem d_A_ring_37 : decode me_A_ring.2.1 37 = .ok (.ireturn, 1) := by decide +kernel
abbrev G_A_ring_0 (l : Launch) (v : gs_V) (n : Nat) (post : Int32 → gs_S → Prop) (σ : gs_S) (x1 : Int32) : Prop := gG l v lyC 42 me_A_ring n (qI v lyC 42 post) 0 [(0, .ref (v.2.2 0)), (1, .int x1)] [] σ
abbrev G_A_ring_11 (l : Launch) (v : gs_V) (n : Nat) (post : Int32 → gs_S → Prop) (σ : gs_S) : Prop := gG l v lyC 42 me_A_ring n (qI v lyC 42 post) 11 [] [] σ
set_option maxRecDepth 20000 in
set_option maxHeartbeats 1000000 in
theorem T_A_ring_0 {l : Launch} {v : gs_V} {n : Nat} {post : Int32 → gs_S → Prop} {σ : gs_S} {x1 : Int32} (h : ((x1 < 1 → G_A_ring_11 l v n post σ) ∧ (¬ x1 < 1 → ((x1 ≤ 64 → gM l v lyC 42 me_C_resize n [.ref (v.2.2 10), .int x1] σ (qV v lyC 42 (fun σ1 => gM l v lyC 42 me_H_forget n [.ref (v.2.2 37)] σ1 (qV v lyC 42 (fun σ2 => post (σ.1 10 1) σ2))))) ∧ (¬ x1 ≤ 64 → G_A_ring_11 l v n post σ))))) : G_A_ring_0 l v n post σ x1 := by
  refine g_iload_n d_A_ring_0 1 rfl rfl ?_
  refine g_iconst d_A_ring_1 (x := 1) (by decide) ?_
  refine g_icmp_lt (tgt := 11) d_A_ring_2 rfl (fun hc => ?_) (fun hc => ?_)
  · have h := h.1 hc
    exact g_sub [] rfl h
  · have h := h.2 hc
    refine g_iload_n d_A_ring_5 1 rfl rfl ?_
    refine g_bipush d_A_ring_6 (x := 64) (by decide) ?_
    refine g_icmp_le (tgt := 13) d_A_ring_8 rfl (fun hc => ?_) (fun hc => ?_)
    · have h := h.1 hc
      refine g_aload_n d_A_ring_13 0 rfl rfl ?_
      refine g_getV (x := .ref (v.2.2 10)) d_A_ring_14 fl_A_28 (by decide) rfl rfl rfl ?_
      refine g_getV (x := .int (σ.1 10 1)) d_A_ring_17 fl_A_104 (by decide) rfl rfl rfl ?_
      refine g_istore_n (L' := [(2, .int (σ.1 10 1)), (0, .ref (v.2.2 0)), (1, .int x1)]) d_A_ring_20 rfl (by decide) rfl ?_
      refine g_aload_n d_A_ring_21 1 rfl rfl ?_
      refine g_getV (x := .ref (v.2.2 10)) d_A_ring_22 fl_A_28 (by decide) rfl rfl rfl ?_
      refine g_iload_n d_A_ring_25 2 rfl rfl ?_
      refine g_callVv (av := [.int x1]) (rest := []) d_A_ring_26 Y_C_resize lk_A_107 (by decide) rfl rfl I_C_resize rfl (Nat.le_of_ble_eq_true rfl) rfl h (fun σ1 h => ?_)
      refine g_aload_n d_A_ring_29 1 rfl rfl ?_
      refine g_getV (x := .ref (v.2.2 37)) d_A_ring_30 fl_A_67 (by decide) rfl rfl rfl ?_
      refine g_callVv (av := []) (rest := []) d_A_ring_33 Y_H_forget lk_A_88 (by decide) rfl rfl I_H_forget rfl (Nat.le_of_ble_eq_true rfl) rfl h (fun σ2 h => ?_)
      refine g_iload_n d_A_ring_36 0 rfl rfl ?_
      exact g_iret d_A_ring_37 rfl h
    · have h := h.2 hc
      exact g_sub [] rfl h
set_option maxRecDepth 20000 in
set_option maxHeartbeats 1000000 in
theorem T_A_ring_11 {l : Launch} {v : gs_V} {n : Nat} {post : Int32 → gs_S → Prop} {σ : gs_S} (h : post ((-1)) σ) : G_A_ring_11 l v n post σ := by
  refine g_iconst d_A_ring_11 (x := (-1)) (by decide) ?_
  exact g_iret d_A_ring_12 rfl h
theorem E_A_ring {l : Launch} {v : gs_V} {n : Nat} {post : Int32 → gs_S → Prop} {σ : gs_S} {x1 : Int32} (h : G_A_ring_0 l v n post σ x1) : gM l v lyC 42 me_A_ring (n + 1) [.ref (v.2.2 0), .int x1] σ (qI v lyC 42 post) := gM_of (by decide +kernel) (Nat.le_of_ble_eq_true rfl) h
/-! LineRules.rule -/
theorem d_A_rule_0 : decode me_A_rule.2.1 0 = .ok (.aload_n 0, 1) := by decide +kernel
theorem d_A_rule_1 : decode me_A_rule.2.1 1 = .ok (.getfield 10, 3) := by decide +kernel
theorem d_A_rule_4 : decode me_A_rule.2.1 4 = .ok (.aload_n 0, 1) := by decide +kernel
theorem d_A_rule_5 : decode me_A_rule.2.1 5 = .ok (.getfield 19, 3) := by decide +kernel
theorem d_A_rule_8 : decode me_A_rule.2.1 8 = .ok (.invokevirtual 75, 3) := by decide +kernel
theorem d_A_rule_11 : decode me_A_rule.2.1 11 = .ok (.istore_n 1, 1) := by decide +kernel
theorem d_A_rule_12 : decode me_A_rule.2.1 12 = .ok (.iload_n 1, 1) := by decide +kernel
theorem d_A_rule_13 : decode me_A_rule.2.1 13 = .ok (.ifCond .lt 8, 3) := by decide +kernel
theorem d_A_rule_16 : decode me_A_rule.2.1 16 = .ok (.bipush (-10), 2) := by decide +kernel
theorem d_A_rule_18 : decode me_A_rule.2.1 18 = .ok (.iload_n 1, 1) := by decide +kernel
theorem d_A_rule_19 : decode me_A_rule.2.1 19 = .ok (.isub, 1) := by decide +kernel
theorem d_A_rule_20 : decode me_A_rule.2.1 20 = .ok (.ireturn, 1) := by decide +kernel
theorem d_A_rule_21 : decode me_A_rule.2.1 21 = .ok (.aload_n 0, 1) := by decide +kernel
theorem d_A_rule_22 : decode me_A_rule.2.1 22 = .ok (.getfield 28, 3) := by decide +kernel
theorem d_A_rule_25 : decode me_A_rule.2.1 25 = .ok (.invokevirtual 79, 3) := by decide +kernel
theorem d_A_rule_28 : decode me_A_rule.2.1 28 = .ok (.aload_n 0, 1) := by decide +kernel
theorem d_A_rule_29 : decode me_A_rule.2.1 29 = .ok (.getfield 35, 3) := by decide +kernel
theorem d_A_rule_32 : decode me_A_rule.2.1 32 = .ok (.invokevirtual 82, 3) := by decide +kernel
theorem d_A_rule_35 : decode me_A_rule.2.1 35 = .ok (.aload_n 0, 1) := by decide +kernel
theorem d_A_rule_36 : decode me_A_rule.2.1 36 = .ok (.getfield 44, 3) := by decide +kernel
theorem d_A_rule_39 : decode me_A_rule.2.1 39 = .ok (.invokevirtual 85, 3) := by decide +kernel
theorem d_A_rule_42 : decode me_A_rule.2.1 42 = .ok (.aload_n 0, 1) := by decide +kernel
theorem d_A_rule_43 : decode me_A_rule.2.1 43 = .ok (.getfield 51, 3) := by decide +kernel
theorem d_A_rule_46 : decode me_A_rule.2.1 46 = .ok (.invokevirtual 86, 3) := by decide +kernel
theorem d_A_rule_49 : decode me_A_rule.2.1 49 = .ok (.aload_n 0, 1) := by decide +kernel
theorem d_A_rule_50 : decode me_A_rule.2.1 50 = .ok (.getfield 58, 3) := by decide +kernel
theorem d_A_rule_53 : decode me_A_rule.2.1 53 = .ok (.invokevirtual 87, 3) := by decide +kernel
theorem d_A_rule_56 : decode me_A_rule.2.1 56 = .ok (.aload_n 0, 1) := by decide +kernel
theorem d_A_rule_57 : decode me_A_rule.2.1 57 = .ok (.getfield 67, 3) := by decide +kernel
theorem d_A_rule_60 : decode me_A_rule.2.1 60 = .ok (.invokevirtual 88, 3) := by decide +kernel
theorem d_A_rule_63 : decode me_A_rule.2.1 63 = .ok (.aload_n 0, 1) := by decide +kernel
theorem d_A_rule_64 : decode me_A_rule.2.1 64 = .ok (.getfield 19, 3) := by decide +kernel
theorem d_A_rule_67 : decode me_A_rule.2.1 67 = .ok (.getfield 89, 3) := by decide +kernel
theorem d_A_rule_70 : decode me_A_rule.2.1 70 = .ok (.ireturn, 1) := by decide +kernel
abbrev G_A_rule_0 (l : Launch) (v : gs_V) (n : Nat) (post : Int32 → gs_S → Prop) (σ : gs_S) : Prop := gG l v lyC 42 me_A_rule n (qI v lyC 42 post) 0 [(0, .ref (v.2.2 0))] [] σ
set_option maxRecDepth 20000 in
set_option maxHeartbeats 1000000 in
theorem T_A_rule_0 {l : Launch} {v : gs_V} {n : Nat} {post : Int32 → gs_S → Prop} {σ : gs_S} (h : gM l v lyC 42 me_T_readInto n [.ref (v.2.2 1), .ref (v.2.2 4)] σ (qI v lyC 42 (fun r1 σ1 => ((r1 < 0 → gM l v lyC 42 me_C_clear n [.ref (v.2.2 10)] σ1 (qV v lyC 42 (fun σ2 => gM l v lyC 42 me_P_forget n [.ref (v.2.2 14)] σ2 (qV v lyC 42 (fun σ3 => gM l v lyC 42 me_V_forget n [.ref (v.2.2 17)] σ3 (qV v lyC 42 (fun σ4 => gM l v lyC 42 me_W_forget n [.ref (v.2.2 19)] σ4 (qV v lyC 42 (fun σ5 => gM l v lyC 42 me_O_forget n [.ref (v.2.2 31)] σ5 (qV v lyC 42 (fun σ6 => gM l v lyC 42 me_H_forget n [.ref (v.2.2 37)] σ6 (qV v lyC 42 (fun σ7 => post (σ7.1 4 6) σ7))))))))))))) ∧ (¬ r1 < 0 → post (((-10)) - r1) σ1))))) : G_A_rule_0 l v n post σ := by
  refine g_aload_n d_A_rule_0 0 rfl rfl ?_
  refine g_getV (x := .ref (v.2.2 1)) d_A_rule_1 fl_A_10 (by decide) rfl rfl rfl ?_
  refine g_aload_n d_A_rule_4 0 rfl rfl ?_
  refine g_getV (x := .ref (v.2.2 4)) d_A_rule_5 fl_A_19 (by decide) rfl rfl rfl ?_
  refine g_callVi (av := [.ref (v.2.2 4)]) (rest := []) d_A_rule_8 Y_T_readInto lk_A_75 (by decide) rfl rfl I_T_readInto rfl (Nat.le_of_ble_eq_true rfl) rfl h (fun r1 σ1 h => ?_)
  refine g_istore_n (L' := [(1, .int r1), (0, .ref (v.2.2 0))]) d_A_rule_11 rfl (by decide) rfl ?_
  refine g_iload_n d_A_rule_12 0 rfl rfl ?_
  refine g_if_lt (tgt := 21) d_A_rule_13 rfl (fun hc => ?_) (fun hc => ?_)
  · have h := h.1 hc
    refine g_aload_n d_A_rule_21 1 rfl rfl ?_
    refine g_getV (x := .ref (v.2.2 10)) d_A_rule_22 fl_A_28 (by decide) rfl rfl rfl ?_
    refine g_callVv (av := []) (rest := []) d_A_rule_25 Y_C_clear lk_A_79 (by decide) rfl rfl I_C_clear rfl (Nat.le_of_ble_eq_true rfl) rfl h (fun σ2 h => ?_)
    refine g_aload_n d_A_rule_28 1 rfl rfl ?_
    refine g_getV (x := .ref (v.2.2 14)) d_A_rule_29 fl_A_35 (by decide) rfl rfl rfl ?_
    refine g_callVv (av := []) (rest := []) d_A_rule_32 Y_P_forget lk_A_82 (by decide) rfl rfl I_P_forget rfl (Nat.le_of_ble_eq_true rfl) rfl h (fun σ3 h => ?_)
    refine g_aload_n d_A_rule_35 1 rfl rfl ?_
    refine g_getV (x := .ref (v.2.2 17)) d_A_rule_36 fl_A_44 (by decide) rfl rfl rfl ?_
    refine g_callVv (av := []) (rest := []) d_A_rule_39 Y_V_forget lk_A_85 (by decide) rfl rfl I_V_forget rfl (Nat.le_of_ble_eq_true rfl) rfl h (fun σ4 h => ?_)
    refine g_aload_n d_A_rule_42 1 rfl rfl ?_
    refine g_getV (x := .ref (v.2.2 19)) d_A_rule_43 fl_A_51 (by decide) rfl rfl rfl ?_
    refine g_callVv (av := []) (rest := []) d_A_rule_46 Y_W_forget lk_A_86 (by decide) rfl rfl I_W_forget rfl (Nat.le_of_ble_eq_true rfl) rfl h (fun σ5 h => ?_)
    refine g_aload_n d_A_rule_49 1 rfl rfl ?_
    refine g_getV (x := .ref (v.2.2 31)) d_A_rule_50 fl_A_58 (by decide) rfl rfl rfl ?_
    refine g_callVv (av := []) (rest := []) d_A_rule_53 Y_O_forget lk_A_87 (by decide) rfl rfl I_O_forget rfl (Nat.le_of_ble_eq_true rfl) rfl h (fun σ6 h => ?_)
    refine g_aload_n d_A_rule_56 1 rfl rfl ?_
    refine g_getV (x := .ref (v.2.2 37)) d_A_rule_57 fl_A_67 (by decide) rfl rfl rfl ?_
    refine g_callVv (av := []) (rest := []) d_A_rule_60 Y_H_forget lk_A_88 (by decide) rfl rfl I_H_forget rfl (Nat.le_of_ble_eq_true rfl) rfl h (fun σ7 h => ?_)
    refine g_aload_n d_A_rule_63 1 rfl rfl ?_
    refine g_getV (x := .ref (v.2.2 4)) d_A_rule_64 fl_A_19 (by decide) rfl rfl rfl ?_
    refine g_getV (x := .int (σ7.1 4 6)) d_A_rule_67 fl_A_89 (by decide) rfl rfl rfl ?_
    exact g_iret d_A_rule_70 rfl h
  · have h := h.2 hc
    refine g_bipush d_A_rule_16 (x := (-10)) (by decide) ?_
    refine g_iload_n d_A_rule_18 0 rfl rfl ?_
    refine g_isub d_A_rule_19 ?_
    exact g_iret d_A_rule_20 rfl h
theorem E_A_rule {l : Launch} {v : gs_V} {n : Nat} {post : Int32 → gs_S → Prop} {σ : gs_S} (h : G_A_rule_0 l v n post σ) : gM l v lyC 42 me_A_rule (n + 1) [.ref (v.2.2 0)] σ (qI v lyC 42 post) := gM_of (by decide +kernel) (Nat.le_of_ble_eq_true rfl) h
/-! LineRules.set -/
theorem d_A_set_0 : decode me_A_set.2.1 0 = .ok (.aload_n 0, 1) := by decide +kernel
theorem d_A_set_1 : decode me_A_set.2.1 1 = .ok (.getfield 19, 3) := by decide +kernel
theorem d_A_set_4 : decode me_A_set.2.1 4 = .ok (.getfield 93, 3) := by decide +kernel
theorem d_A_set_7 : decode me_A_set.2.1 7 = .ok (.ifCond .eq 25, 3) := by decide +kernel
theorem d_A_set_10 : decode me_A_set.2.1 10 = .ok (.aload_n 0, 1) := by decide +kernel
theorem d_A_set_11 : decode me_A_set.2.1 11 = .ok (.getfield 28, 3) := by decide +kernel
theorem d_A_set_14 : decode me_A_set.2.1 14 = .ok (.iload_n 1, 1) := by decide +kernel
theorem d_A_set_15 : decode me_A_set.2.1 15 = .ok (.invokevirtual 111, 3) := by decide +kernel
theorem d_A_set_18 : decode me_A_set.2.1 18 = .ok (.ifCond .eq 14, 3) := by decide +kernel
theorem d_A_set_21 : decode me_A_set.2.1 21 = .ok (.aload_n 0, 1) := by decide +kernel
theorem d_A_set_22 : decode me_A_set.2.1 22 = .ok (.getfield 19, 3) := by decide +kernel
theorem d_A_set_25 : decode me_A_set.2.1 25 = .ok (.iload_n 2, 1) := by decide +kernel
theorem d_A_set_26 : decode me_A_set.2.1 26 = .ok (.invokevirtual 115, 3) := by decide +kernel
theorem d_A_set_29 : decode me_A_set.2.1 29 = .ok (.ifCond .ne 5, 3) := by decide +kernel
theorem d_A_set_32 : decode me_A_set.2.1 32 = .ok (.iconst (-1), 1) := by decide +kernel
theorem d_A_set_33 : decode me_A_set.2.1 33 = .ok (.ireturn, 1) := by decide +kernel
theorem d_A_set_34 : decode me_A_set.2.1 34 = .ok (.aload_n 0, 1) := by decide +kernel
theorem d_A_set_35 : decode me_A_set.2.1 35 = .ok (.getfield 28, 3) := by decide +kernel
theorem d_A_set_38 : decode me_A_set.2.1 38 = .ok (.getfield 118, 3) := by decide +kernel
theorem d_A_set_41 : decode me_A_set.2.1 41 = .ok (.iload_n 1, 1) := by decide +kernel
theorem d_A_set_42 : decode me_A_set.2.1 42 = .ok (.iaload, 1) := by decide +kernel
theorem d_A_set_43 : decode me_A_set.2.1 43 = .ok (.istore_n 3, 1) := by decide +kernel
theorem d_A_set_44 : decode me_A_set.2.1 44 = .ok (.aload_n 0, 1) := by decide +kernel
theorem d_A_set_45 : decode me_A_set.2.1 45 = .ok (.getfield 28, 3) := by decide +kernel
theorem d_A_set_48 : decode me_A_set.2.1 48 = .ok (.getfield 118, 3) := by decide +kernel
theorem d_A_set_51 : decode me_A_set.2.1 51 = .ok (.iload_n 1, 1) := by decide +kernel
theorem d_A_set_52 : decode me_A_set.2.1 52 = .ok (.iload_n 2, 1) := by decide +kernel
theorem d_A_set_53 : decode me_A_set.2.1 53 = .ok (.iastore, 1) := by decide +kernel
theorem d_A_set_54 : decode me_A_set.2.1 54 = .ok (.aload_n 0, 1) := by decide +kernel
theorem d_A_set_55 : decode me_A_set.2.1 55 = .ok (.getfield 67, 3) := by decide +kernel
theorem d_A_set_58 : decode me_A_set.2.1 58 = .ok (.invokevirtual 88, 3) := by decide +kernel
theorem d_A_set_61 : decode me_A_set.2.1 61 = .ok (.iload_n 3, 1) := by decide +kernel
theorem d_A_set_62 : decode me_A_set.2.1 62 = .ok (.ireturn, 1) := by decide +kernel
abbrev G_A_set_0 (l : Launch) (v : gs_V) (n : Nat) (post : Int32 → gs_S → Prop) (σ : gs_S) (x1 : Int32) (x2 : Int32) : Prop := gG l v lyC 42 me_A_set n (qI v lyC 42 post) 0 [(0, .ref (v.2.2 0)), (1, .int x1), (2, .int x2)] [] σ
abbrev G_A_set_32 (l : Launch) (v : gs_V) (n : Nat) (post : Int32 → gs_S → Prop) (σ : gs_S) : Prop := gG l v lyC 42 me_A_set n (qI v lyC 42 post) 32 [] [] σ
set_option maxRecDepth 20000 in
set_option maxHeartbeats 1000000 in
theorem T_A_set_0 {l : Launch} {v : gs_V} {n : Nat} {post : Int32 → gs_S → Prop} {σ : gs_S} {x1 : Int32} {x2 : Int32} (h : (((σ.1 4 5) = 0 → G_A_set_32 l v n post σ) ∧ (¬ (σ.1 4 5) = 0 → gM l v lyC 42 me_C_has n [.ref (v.2.2 10), .int x1] σ (qI v lyC 42 (fun r1 σ1 => ((r1 = 0 → G_A_set_32 l v n post σ1) ∧ (¬ r1 = 0 → gM l v lyC 42 me_R_hasState n [.ref (v.2.2 4), .int x2] σ1 (qI v lyC 42 (fun r2 σ2 => ((¬ r2 = 0 → vp_in x1 64 ∧ vp_in x1 64 ∧ gM l v lyC 42 me_H_forget n [.ref (v.2.2 37)] (gs_pI σ2 11 x1.toNatClampNeg x2) (qV v lyC 42 (fun σ5 => post (σ2.1 11 x1.toNatClampNeg) σ5))) ∧ (r2 = 0 → G_A_set_32 l v n post σ2))))))))))) : G_A_set_0 l v n post σ x1 x2 := by
  refine g_aload_n d_A_set_0 0 rfl rfl ?_
  refine g_getV (x := .ref (v.2.2 4)) d_A_set_1 fl_A_19 (by decide) rfl rfl rfl ?_
  refine g_getV (x := .int (σ.1 4 5)) d_A_set_4 fl_A_93 (by decide) rfl rfl rfl ?_
  refine g_if_eq (tgt := 32) d_A_set_7 rfl (fun hc => ?_) (fun hc => ?_)
  · have h := h.1 hc
    exact g_sub [] rfl h
  · have h := h.2 hc
    refine g_aload_n d_A_set_10 0 rfl rfl ?_
    refine g_getV (x := .ref (v.2.2 10)) d_A_set_11 fl_A_28 (by decide) rfl rfl rfl ?_
    refine g_iload_n d_A_set_14 1 rfl rfl ?_
    refine g_callVi (av := [.int x1]) (rest := []) d_A_set_15 Y_C_has lk_A_111 (by decide) rfl rfl I_C_has rfl (Nat.le_of_ble_eq_true rfl) rfl h (fun r1 σ1 h => ?_)
    refine g_if_eq (tgt := 32) d_A_set_18 rfl (fun hc => ?_) (fun hc => ?_)
    · have h := h.1 hc
      exact g_sub [] rfl h
    · have h := h.2 hc
      refine g_aload_n d_A_set_21 0 rfl rfl ?_
      refine g_getV (x := .ref (v.2.2 4)) d_A_set_22 fl_A_19 (by decide) rfl rfl rfl ?_
      refine g_iload_n d_A_set_25 2 rfl rfl ?_
      refine g_callVi (av := [.int x2]) (rest := []) d_A_set_26 Y_R_hasState lk_A_115 (by decide) rfl rfl I_R_hasState rfl (Nat.le_of_ble_eq_true rfl) rfl h (fun r2 σ2 h => ?_)
      refine g_if_ne (tgt := 34) d_A_set_29 rfl (fun hc => ?_) (fun hc => ?_)
      · have h := h.1 hc
        refine g_aload_n d_A_set_34 0 rfl rfl ?_
        refine g_getV (x := .ref (v.2.2 10)) d_A_set_35 fl_A_28 (by decide) rfl rfl rfl ?_
        refine g_getV (x := .ref (v.2.2 11)) d_A_set_38 fl_A_118 (by decide) rfl rfl rfl ?_
        refine g_iload_n d_A_set_41 1 rfl rfl ?_
        have hi3 := h.1
        have h := h.2
        refine g_iald (x := σ2.1 11 x1.toNatClampNeg) d_A_set_42 (by decide) rfl hi3 rfl ?_
        refine g_istore_n (L' := [(3, .int (σ2.1 11 x1.toNatClampNeg)), (0, .ref (v.2.2 0)), (1, .int x1), (2, .int x2)]) d_A_set_43 rfl (by decide) rfl ?_
        refine g_aload_n d_A_set_44 1 rfl rfl ?_
        refine g_getV (x := .ref (v.2.2 10)) d_A_set_45 fl_A_28 (by decide) rfl rfl rfl ?_
        refine g_getV (x := .ref (v.2.2 11)) d_A_set_48 fl_A_118 (by decide) rfl rfl rfl ?_
        refine g_iload_n d_A_set_51 2 rfl rfl ?_
        refine g_iload_n d_A_set_52 3 rfl rfl ?_
        have hi4 := h.1
        have h := h.2
        refine g_iast d_A_set_53 (by decide) rfl hi4 ?_
        refine g_aload_n d_A_set_54 1 rfl rfl ?_
        refine g_getV (x := .ref (v.2.2 37)) d_A_set_55 fl_A_67 (by decide) rfl rfl rfl ?_
        refine g_callVv (av := []) (rest := []) d_A_set_58 Y_H_forget lk_A_88 (by decide) rfl rfl I_H_forget rfl (Nat.le_of_ble_eq_true rfl) rfl h (fun σ5 h => ?_)
        refine g_iload_n d_A_set_61 0 rfl rfl ?_
        exact g_iret d_A_set_62 rfl h
      · have h := h.2 hc
        exact g_sub [] rfl h
set_option maxRecDepth 20000 in
set_option maxHeartbeats 1000000 in
theorem T_A_set_32 {l : Launch} {v : gs_V} {n : Nat} {post : Int32 → gs_S → Prop} {σ : gs_S} (h : post ((-1)) σ) : G_A_set_32 l v n post σ := by
  refine g_iconst d_A_set_32 (x := (-1)) (by decide) ?_
  exact g_iret d_A_set_33 rfl h
theorem E_A_set {l : Launch} {v : gs_V} {n : Nat} {post : Int32 → gs_S → Prop} {σ : gs_S} {x1 : Int32} {x2 : Int32} (h : G_A_set_0 l v n post σ x1 x2) : gM l v lyC 42 me_A_set (n + 1) [.ref (v.2.2 0), .int x1, .int x2] σ (qI v lyC 42 post) := gM_of (by decide +kernel) (Nat.le_of_ble_eq_true rfl) h
/-! LineRules.step -/
theorem d_A_step_0 : decode me_A_step.2.1 0 = .ok (.aload_n 0, 1) := by decide +kernel
theorem d_A_step_1 : decode me_A_step.2.1 1 = .ok (.getfield 19, 3) := by decide +kernel
theorem d_A_step_4 : decode me_A_step.2.1 4 = .ok (.getfield 93, 3) := by decide +kernel
theorem d_A_step_7 : decode me_A_step.2.1 7 = .ok (.ifCond .eq 14, 3) := by decide +kernel
theorem d_A_step_10 : decode me_A_step.2.1 10 = .ok (.iload_n 1, 1) := by decide +kernel
theorem d_A_step_11 : decode me_A_step.2.1 11 = .ok (.ifCond .lt 10, 3) := by decide +kernel
theorem d_A_step_14 : decode me_A_step.2.1 14 = .ok (.iload_n 1, 1) := by decide +kernel
theorem d_A_step_15 : decode me_A_step.2.1 15 = .ok (.sipush 200, 3) := by decide +kernel
theorem d_A_step_18 : decode me_A_step.2.1 18 = .ok (.if_icmp .le 5, 3) := by decide +kernel
theorem d_A_step_21 : decode me_A_step.2.1 21 = .ok (.iconst (-1), 1) := by decide +kernel
theorem d_A_step_22 : decode me_A_step.2.1 22 = .ok (.ireturn, 1) := by decide +kernel
theorem d_A_step_23 : decode me_A_step.2.1 23 = .ok (.aload_n 0, 1) := by decide +kernel
theorem d_A_step_24 : decode me_A_step.2.1 24 = .ok (.getfield 67, 3) := by decide +kernel
theorem d_A_step_27 : decode me_A_step.2.1 27 = .ok (.invokevirtual 88, 3) := by decide +kernel
theorem d_A_step_30 : decode me_A_step.2.1 30 = .ok (.aload_n 0, 1) := by decide +kernel
theorem d_A_step_31 : decode me_A_step.2.1 31 = .ok (.getfield 28, 3) := by decide +kernel
theorem d_A_step_34 : decode me_A_step.2.1 34 = .ok (.iload_n 1, 1) := by decide +kernel
theorem d_A_step_35 : decode me_A_step.2.1 35 = .ok (.invokevirtual 121, 3) := by decide +kernel
theorem d_A_step_38 : decode me_A_step.2.1 38 = .ok (.ireturn, 1) := by decide +kernel
abbrev G_A_step_0 (l : Launch) (v : gs_V) (n : Nat) (post : Int32 → gs_S → Prop) (σ : gs_S) (x1 : Int32) : Prop := gG l v lyC 42 me_A_step n (qI v lyC 42 post) 0 [(0, .ref (v.2.2 0)), (1, .int x1)] [] σ
abbrev G_A_step_21 (l : Launch) (v : gs_V) (n : Nat) (post : Int32 → gs_S → Prop) (σ : gs_S) : Prop := gG l v lyC 42 me_A_step n (qI v lyC 42 post) 21 [] [] σ
set_option maxRecDepth 20000 in
set_option maxHeartbeats 1000000 in
theorem T_A_step_0 {l : Launch} {v : gs_V} {n : Nat} {post : Int32 → gs_S → Prop} {σ : gs_S} {x1 : Int32} (h : (((σ.1 4 5) = 0 → G_A_step_21 l v n post σ) ∧ (¬ (σ.1 4 5) = 0 → ((x1 < 0 → G_A_step_21 l v n post σ) ∧ (¬ x1 < 0 → ((x1 ≤ 200 → gM l v lyC 42 me_H_forget n [.ref (v.2.2 37)] σ (qV v lyC 42 (fun σ1 => gM l v lyC 42 me_C_run n [.ref (v.2.2 10), .int x1] σ1 (qI v lyC 42 (fun r2 σ2 => post r2 σ2))))) ∧ (¬ x1 ≤ 200 → G_A_step_21 l v n post σ))))))) : G_A_step_0 l v n post σ x1 := by
  refine g_aload_n d_A_step_0 0 rfl rfl ?_
  refine g_getV (x := .ref (v.2.2 4)) d_A_step_1 fl_A_19 (by decide) rfl rfl rfl ?_
  refine g_getV (x := .int (σ.1 4 5)) d_A_step_4 fl_A_93 (by decide) rfl rfl rfl ?_
  refine g_if_eq (tgt := 21) d_A_step_7 rfl (fun hc => ?_) (fun hc => ?_)
  · have h := h.1 hc
    exact g_sub [] rfl h
  · have h := h.2 hc
    refine g_iload_n d_A_step_10 1 rfl rfl ?_
    refine g_if_lt (tgt := 21) d_A_step_11 rfl (fun hc => ?_) (fun hc => ?_)
    · have h := h.1 hc
      exact g_sub [] rfl h
    · have h := h.2 hc
      refine g_iload_n d_A_step_14 1 rfl rfl ?_
      refine g_sipush d_A_step_15 (x := 200) (by decide) ?_
      refine g_icmp_le (tgt := 23) d_A_step_18 rfl (fun hc => ?_) (fun hc => ?_)
      · have h := h.1 hc
        refine g_aload_n d_A_step_23 0 rfl rfl ?_
        refine g_getV (x := .ref (v.2.2 37)) d_A_step_24 fl_A_67 (by decide) rfl rfl rfl ?_
        refine g_callVv (av := []) (rest := []) d_A_step_27 Y_H_forget lk_A_88 (by decide) rfl rfl I_H_forget rfl (Nat.le_of_ble_eq_true rfl) rfl h (fun σ1 h => ?_)
        refine g_aload_n d_A_step_30 0 rfl rfl ?_
        refine g_getV (x := .ref (v.2.2 10)) d_A_step_31 fl_A_28 (by decide) rfl rfl rfl ?_
        refine g_iload_n d_A_step_34 1 rfl rfl ?_
        refine g_callVi (av := [.int x1]) (rest := []) d_A_step_35 Y_C_run lk_A_121 (by decide) rfl rfl I_C_run rfl (Nat.le_of_ble_eq_true rfl) rfl h (fun r2 σ2 h => ?_)
        exact g_iret d_A_step_38 rfl h
      · have h := h.2 hc
        exact g_sub [] rfl h
set_option maxRecDepth 20000 in
set_option maxHeartbeats 1000000 in
theorem T_A_step_21 {l : Launch} {v : gs_V} {n : Nat} {post : Int32 → gs_S → Prop} {σ : gs_S} (h : post ((-1)) σ) : G_A_step_21 l v n post σ := by
  refine g_iconst d_A_step_21 (x := (-1)) (by decide) ?_
  exact g_iret d_A_step_22 rfl h
theorem E_A_step {l : Launch} {v : gs_V} {n : Nat} {post : Int32 → gs_S → Prop} {σ : gs_S} {x1 : Int32} (h : G_A_step_0 l v n post σ x1) : gM l v lyC 42 me_A_step (n + 1) [.ref (v.2.2 0), .int x1] σ (qI v lyC 42 post) := gM_of (by decide +kernel) (Nat.le_of_ble_eq_true rfl) h
/-! LineRules.surjective -/
theorem d_A_surjective_0 : decode me_A_surjective.2.1 0 = .ok (.aload_n 0, 1) := by decide +kernel
theorem d_A_surjective_1 : decode me_A_surjective.2.1 1 = .ok (.getfield 19, 3) := by decide +kernel
theorem d_A_surjective_4 : decode me_A_surjective.2.1 4 = .ok (.getfield 93, 3) := by decide +kernel
theorem d_A_surjective_7 : decode me_A_surjective.2.1 7 = .ok (.ifCond .ne 5, 3) := by decide +kernel
theorem d_A_surjective_10 : decode me_A_surjective.2.1 10 = .ok (.iconst (-1), 1) := by decide +kernel
theorem d_A_surjective_11 : decode me_A_surjective.2.1 11 = .ok (.ireturn, 1) := by decide +kernel
theorem d_A_surjective_12 : decode me_A_surjective.2.1 12 = .ok (.aload_n 0, 1) := by decide +kernel
theorem d_A_surjective_13 : decode me_A_surjective.2.1 13 = .ok (.getfield 35, 3) := by decide +kernel
theorem d_A_surjective_16 : decode me_A_surjective.2.1 16 = .ok (.invokevirtual 127, 3) := by decide +kernel
theorem d_A_surjective_19 : decode me_A_surjective.2.1 19 = .ok (.ifCond .eq 7, 3) := by decide +kernel
theorem d_A_surjective_22 : decode me_A_surjective.2.1 22 = .ok (.iconst 1, 1) := by decide +kernel
theorem d_A_surjective_23 : decode me_A_surjective.2.1 23 = .ok (.goto 4, 3) := by decide +kernel
theorem d_A_surjective_26 : decode me_A_surjective.2.1 26 = .ok (.iconst 0, 1) := by decide +kernel
theorem d_A_surjective_27 : decode me_A_surjective.2.1 27 = .ok (.ireturn, 1) := by decide +kernel
abbrev G_A_surjective_0 (l : Launch) (v : gs_V) (n : Nat) (post : Int32 → gs_S → Prop) (σ : gs_S) : Prop := gG l v lyC 42 me_A_surjective n (qI v lyC 42 post) 0 [(0, .ref (v.2.2 0))] [] σ
abbrev G_A_surjective_27 (l : Launch) (v : gs_V) (n : Nat) (post : Int32 → gs_S → Prop) (σ : gs_S) (s0 : Int32) : Prop := gG l v lyC 42 me_A_surjective n (qI v lyC 42 post) 27 [] [.int s0] σ
set_option maxRecDepth 20000 in
set_option maxHeartbeats 1000000 in
theorem T_A_surjective_0 {l : Launch} {v : gs_V} {n : Nat} {post : Int32 → gs_S → Prop} {σ : gs_S} (h : ((¬ (σ.1 4 5) = 0 → gM l v lyC 42 me_P_missesNothing n [.ref (v.2.2 14)] σ (qI v lyC 42 (fun r1 σ1 => ((r1 = 0 → G_A_surjective_27 l v n post σ1 0) ∧ (¬ r1 = 0 → G_A_surjective_27 l v n post σ1 1))))) ∧ ((σ.1 4 5) = 0 → post ((-1)) σ))) : G_A_surjective_0 l v n post σ := by
  refine g_aload_n d_A_surjective_0 0 rfl rfl ?_
  refine g_getV (x := .ref (v.2.2 4)) d_A_surjective_1 fl_A_19 (by decide) rfl rfl rfl ?_
  refine g_getV (x := .int (σ.1 4 5)) d_A_surjective_4 fl_A_93 (by decide) rfl rfl rfl ?_
  refine g_if_ne (tgt := 12) d_A_surjective_7 rfl (fun hc => ?_) (fun hc => ?_)
  · have h := h.1 hc
    refine g_aload_n d_A_surjective_12 0 rfl rfl ?_
    refine g_getV (x := .ref (v.2.2 14)) d_A_surjective_13 fl_A_35 (by decide) rfl rfl rfl ?_
    refine g_callVi (av := []) (rest := []) d_A_surjective_16 Y_P_missesNothing lk_A_127 (by decide) rfl rfl I_P_missesNothing rfl (Nat.le_of_ble_eq_true rfl) rfl h (fun r1 σ1 h => ?_)
    refine g_if_eq (tgt := 26) d_A_surjective_19 rfl (fun hc => ?_) (fun hc => ?_)
    · have h := h.1 hc
      refine g_iconst d_A_surjective_26 (x := 0) (by decide) ?_
      exact g_sub [] rfl h
    · have h := h.2 hc
      refine g_iconst d_A_surjective_22 (x := 1) (by decide) ?_
      refine g_goto (tgt := 27) d_A_surjective_23 rfl ?_
      exact g_sub [] rfl h
  · have h := h.2 hc
    refine g_iconst d_A_surjective_10 (x := (-1)) (by decide) ?_
    exact g_iret d_A_surjective_11 rfl h
set_option maxRecDepth 20000 in
set_option maxHeartbeats 1000000 in
theorem T_A_surjective_27 {l : Launch} {v : gs_V} {n : Nat} {post : Int32 → gs_S → Prop} {σ : gs_S} {s0 : Int32} (h : post s0 σ) : G_A_surjective_27 l v n post σ s0 := by
  exact g_iret d_A_surjective_27 rfl h
theorem E_A_surjective {l : Launch} {v : gs_V} {n : Nat} {post : Int32 → gs_S → Prop} {σ : gs_S} (h : G_A_surjective_0 l v n post σ) : gM l v lyC 42 me_A_surjective (n + 1) [.ref (v.2.2 0)] σ (qI v lyC 42 post) := gM_of (by decide +kernel) (Nat.le_of_ble_eq_true rfl) h
/-! LineRules.undo -/
theorem d_A_undo_0 : decode me_A_undo.2.1 0 = .ok (.aload_n 0, 1) := by decide +kernel
theorem d_A_undo_1 : decode me_A_undo.2.1 1 = .ok (.getfield 19, 3) := by decide +kernel
theorem d_A_undo_4 : decode me_A_undo.2.1 4 = .ok (.getfield 93, 3) := by decide +kernel
theorem d_A_undo_7 : decode me_A_undo.2.1 7 = .ok (.ifCond .eq 14, 3) := by decide +kernel
theorem d_A_undo_10 : decode me_A_undo.2.1 10 = .ok (.aload_n 0, 1) := by decide +kernel
theorem d_A_undo_11 : decode me_A_undo.2.1 11 = .ok (.getfield 44, 3) := by decide +kernel
theorem d_A_undo_14 : decode me_A_undo.2.1 14 = .ok (.iload_n 1, 1) := by decide +kernel
theorem d_A_undo_15 : decode me_A_undo.2.1 15 = .ok (.invokevirtual 141, 3) := by decide +kernel
theorem d_A_undo_18 : decode me_A_undo.2.1 18 = .ok (.goto 4, 3) := by decide +kernel
theorem d_A_undo_21 : decode me_A_undo.2.1 21 = .ok (.iconst (-1), 1) := by decide +kernel
theorem d_A_undo_22 : decode me_A_undo.2.1 22 = .ok (.ireturn, 1) := by decide +kernel
abbrev G_A_undo_0 (l : Launch) (v : gs_V) (n : Nat) (post : Int32 → gs_S → Prop) (σ : gs_S) (x1 : Int32) : Prop := gG l v lyC 42 me_A_undo n (qI v lyC 42 post) 0 [(0, .ref (v.2.2 0)), (1, .int x1)] [] σ
abbrev G_A_undo_22 (l : Launch) (v : gs_V) (n : Nat) (post : Int32 → gs_S → Prop) (σ : gs_S) (s0 : Int32) : Prop := gG l v lyC 42 me_A_undo n (qI v lyC 42 post) 22 [] [.int s0] σ
set_option maxRecDepth 20000 in
set_option maxHeartbeats 1000000 in
theorem T_A_undo_0 {l : Launch} {v : gs_V} {n : Nat} {post : Int32 → gs_S → Prop} {σ : gs_S} {x1 : Int32} (h : (((σ.1 4 5) = 0 → G_A_undo_22 l v n post σ ((-1))) ∧ (¬ (σ.1 4 5) = 0 → gM l v lyC 42 me_V_cellOf n [.ref (v.2.2 17), .int x1] σ (qI v lyC 42 (fun r1 σ1 => G_A_undo_22 l v n post σ1 r1))))) : G_A_undo_0 l v n post σ x1 := by
  refine g_aload_n d_A_undo_0 0 rfl rfl ?_
  refine g_getV (x := .ref (v.2.2 4)) d_A_undo_1 fl_A_19 (by decide) rfl rfl rfl ?_
  refine g_getV (x := .int (σ.1 4 5)) d_A_undo_4 fl_A_93 (by decide) rfl rfl rfl ?_
  refine g_if_eq (tgt := 21) d_A_undo_7 rfl (fun hc => ?_) (fun hc => ?_)
  · have h := h.1 hc
    refine g_iconst d_A_undo_21 (x := (-1)) (by decide) ?_
    exact g_sub [] rfl h
  · have h := h.2 hc
    refine g_aload_n d_A_undo_10 0 rfl rfl ?_
    refine g_getV (x := .ref (v.2.2 17)) d_A_undo_11 fl_A_44 (by decide) rfl rfl rfl ?_
    refine g_iload_n d_A_undo_14 1 rfl rfl ?_
    refine g_callVi (av := [.int x1]) (rest := []) d_A_undo_15 Y_V_cellOf lk_A_141 (by decide) rfl rfl I_V_cellOf rfl (Nat.le_of_ble_eq_true rfl) rfl h (fun r1 σ1 h => ?_)
    refine g_goto (tgt := 22) d_A_undo_18 rfl ?_
    exact g_sub [] rfl h
set_option maxRecDepth 20000 in
set_option maxHeartbeats 1000000 in
theorem T_A_undo_22 {l : Launch} {v : gs_V} {n : Nat} {post : Int32 → gs_S → Prop} {σ : gs_S} {s0 : Int32} (h : post s0 σ) : G_A_undo_22 l v n post σ s0 := by
  exact g_iret d_A_undo_22 rfl h
theorem E_A_undo {l : Launch} {v : gs_V} {n : Nat} {post : Int32 → gs_S → Prop} {σ : gs_S} {x1 : Int32} (h : G_A_undo_0 l v n post σ x1) : gM l v lyC 42 me_A_undo (n + 1) [.ref (v.2.2 0), .int x1] σ (qI v lyC 42 post) := gM_of (by decide +kernel) (Nat.le_of_ble_eq_true rfl) h
/-! LineRules.ways -/
theorem d_A_ways_0 : decode me_A_ways.2.1 0 = .ok (.aload_n 0, 1) := by decide +kernel
theorem d_A_ways_1 : decode me_A_ways.2.1 1 = .ok (.getfield 19, 3) := by decide +kernel
theorem d_A_ways_4 : decode me_A_ways.2.1 4 = .ok (.getfield 93, 3) := by decide +kernel
theorem d_A_ways_7 : decode me_A_ways.2.1 7 = .ok (.ifCond .eq 13, 3) := by decide +kernel
theorem d_A_ways_10 : decode me_A_ways.2.1 10 = .ok (.aload_n 0, 1) := by decide +kernel
theorem d_A_ways_11 : decode me_A_ways.2.1 11 = .ok (.getfield 67, 3) := by decide +kernel
theorem d_A_ways_14 : decode me_A_ways.2.1 14 = .ok (.invokevirtual 160, 3) := by decide +kernel
theorem d_A_ways_17 : decode me_A_ways.2.1 17 = .ok (.goto 6, 3) := by decide +kernel
theorem d_A_ways_20 : decode me_A_ways.2.1 20 = .ok (.ldc2_w 163, 3) := by decide +kernel
theorem d_A_ways_23 : decode me_A_ways.2.1 23 = .ok (.lreturn, 1) := by decide +kernel
abbrev G_A_ways_0 (l : Launch) (v : gs_V) (n : Nat) (post : Int64 → gs_S → Prop) (σ : gs_S) : Prop := gG l v lyC 42 me_A_ways n (qL v lyC 42 post) 0 [(0, .ref (v.2.2 0))] [] σ
abbrev G_A_ways_23 (l : Launch) (v : gs_V) (n : Nat) (post : Int64 → gs_S → Prop) (σ : gs_S) (s0 : Int64) : Prop := gG l v lyC 42 me_A_ways n (qL v lyC 42 post) 23 [] [.long s0] σ
set_option maxRecDepth 20000 in
set_option maxHeartbeats 1000000 in
theorem T_A_ways_0 {l : Launch} {v : gs_V} {n : Nat} {post : Int64 → gs_S → Prop} {σ : gs_S} (h : (((σ.1 4 5) = 0 → G_A_ways_23 l v n post σ ((-1))) ∧ (¬ (σ.1 4 5) = 0 → gM l v lyC 42 me_H_count n [.ref (v.2.2 37)] σ (qL v lyC 42 (fun r1 σ1 => G_A_ways_23 l v n post σ1 r1))))) : G_A_ways_0 l v n post σ := by
  refine g_aload_n d_A_ways_0 0 rfl rfl ?_
  refine g_getV (x := .ref (v.2.2 4)) d_A_ways_1 fl_A_19 (by decide) rfl rfl rfl ?_
  refine g_getV (x := .int (σ.1 4 5)) d_A_ways_4 fl_A_93 (by decide) rfl rfl rfl ?_
  refine g_if_eq (tgt := 20) d_A_ways_7 rfl (fun hc => ?_) (fun hc => ?_)
  · have h := h.1 hc
    refine g_ldc2 d_A_ways_20 (x := (-1)) (gw_t4 (List.mem_of_getElem? (i := 55) rfl) rfl) ?_
    exact g_sub [] rfl h
  · have h := h.2 hc
    refine g_aload_n d_A_ways_10 0 rfl rfl ?_
    refine g_getV (x := .ref (v.2.2 37)) d_A_ways_11 fl_A_67 (by decide) rfl rfl rfl ?_
    refine g_callVl (av := []) (rest := []) d_A_ways_14 Y_H_count lk_A_160 (by decide) rfl rfl I_H_count rfl (Nat.le_of_ble_eq_true rfl) rfl h (fun r1 σ1 h => ?_)
    refine g_goto (tgt := 23) d_A_ways_17 rfl ?_
    exact g_sub [] rfl h
set_option maxRecDepth 20000 in
set_option maxHeartbeats 1000000 in
theorem T_A_ways_23 {l : Launch} {v : gs_V} {n : Nat} {post : Int64 → gs_S → Prop} {σ : gs_S} {s0 : Int64} (h : post s0 σ) : G_A_ways_23 l v n post σ s0 := by
  exact g_lret d_A_ways_23 rfl h
theorem E_A_ways {l : Launch} {v : gs_V} {n : Nat} {post : Int64 → gs_S → Prop} {σ : gs_S} (h : G_A_ways_0 l v n post σ) : gM l v lyC 42 me_A_ways (n + 1) [.ref (v.2.2 0)] σ (qL v lyC 42 post) := gM_of (by decide +kernel) (Nat.le_of_ble_eq_true rfl) h
/-! LineRules.weight -/
theorem d_A_weight_0 : decode me_A_weight.2.1 0 = .ok (.aload_n 0, 1) := by decide +kernel
theorem d_A_weight_1 : decode me_A_weight.2.1 1 = .ok (.getfield 19, 3) := by decide +kernel
theorem d_A_weight_4 : decode me_A_weight.2.1 4 = .ok (.getfield 93, 3) := by decide +kernel
theorem d_A_weight_7 : decode me_A_weight.2.1 7 = .ok (.ifCond .eq 15, 3) := by decide +kernel
theorem d_A_weight_10 : decode me_A_weight.2.1 10 = .ok (.aload_n 0, 1) := by decide +kernel
theorem d_A_weight_11 : decode me_A_weight.2.1 11 = .ok (.getfield 51, 3) := by decide +kernel
theorem d_A_weight_14 : decode me_A_weight.2.1 14 = .ok (.iload_n 1, 1) := by decide +kernel
theorem d_A_weight_15 : decode me_A_weight.2.1 15 = .ok (.iload_n 2, 1) := by decide +kernel
theorem d_A_weight_16 : decode me_A_weight.2.1 16 = .ok (.invokevirtual 146, 3) := by decide +kernel
theorem d_A_weight_19 : decode me_A_weight.2.1 19 = .ok (.goto 4, 3) := by decide +kernel
theorem d_A_weight_22 : decode me_A_weight.2.1 22 = .ok (.iconst (-1), 1) := by decide +kernel
theorem d_A_weight_23 : decode me_A_weight.2.1 23 = .ok (.ireturn, 1) := by decide +kernel
abbrev G_A_weight_0 (l : Launch) (v : gs_V) (n : Nat) (post : Int32 → gs_S → Prop) (σ : gs_S) (x1 : Int32) (x2 : Int32) : Prop := gG l v lyC 42 me_A_weight n (qI v lyC 42 post) 0 [(0, .ref (v.2.2 0)), (1, .int x1), (2, .int x2)] [] σ
abbrev G_A_weight_23 (l : Launch) (v : gs_V) (n : Nat) (post : Int32 → gs_S → Prop) (σ : gs_S) (s0 : Int32) : Prop := gG l v lyC 42 me_A_weight n (qI v lyC 42 post) 23 [] [.int s0] σ
set_option maxRecDepth 20000 in
set_option maxHeartbeats 1000000 in
theorem T_A_weight_0 {l : Launch} {v : gs_V} {n : Nat} {post : Int32 → gs_S → Prop} {σ : gs_S} {x1 : Int32} {x2 : Int32} (h : (((σ.1 4 5) = 0 → G_A_weight_23 l v n post σ ((-1))) ∧ (¬ (σ.1 4 5) = 0 → gM l v lyC 42 me_W_at n [.ref (v.2.2 19), .int x1, .int x2] σ (qI v lyC 42 (fun r1 σ1 => G_A_weight_23 l v n post σ1 r1))))) : G_A_weight_0 l v n post σ x1 x2 := by
  refine g_aload_n d_A_weight_0 0 rfl rfl ?_
  refine g_getV (x := .ref (v.2.2 4)) d_A_weight_1 fl_A_19 (by decide) rfl rfl rfl ?_
  refine g_getV (x := .int (σ.1 4 5)) d_A_weight_4 fl_A_93 (by decide) rfl rfl rfl ?_
  refine g_if_eq (tgt := 22) d_A_weight_7 rfl (fun hc => ?_) (fun hc => ?_)
  · have h := h.1 hc
    refine g_iconst d_A_weight_22 (x := (-1)) (by decide) ?_
    exact g_sub [] rfl h
  · have h := h.2 hc
    refine g_aload_n d_A_weight_10 0 rfl rfl ?_
    refine g_getV (x := .ref (v.2.2 19)) d_A_weight_11 fl_A_51 (by decide) rfl rfl rfl ?_
    refine g_iload_n d_A_weight_14 1 rfl rfl ?_
    refine g_iload_n d_A_weight_15 2 rfl rfl ?_
    refine g_callVi (av := [.int x1, .int x2]) (rest := []) d_A_weight_16 Y_W_at lk_A_146 (by decide) rfl rfl I_W_at rfl (Nat.le_of_ble_eq_true rfl) rfl h (fun r1 σ1 h => ?_)
    refine g_goto (tgt := 23) d_A_weight_19 rfl ?_
    exact g_sub [] rfl h
set_option maxRecDepth 20000 in
set_option maxHeartbeats 1000000 in
theorem T_A_weight_23 {l : Launch} {v : gs_V} {n : Nat} {post : Int32 → gs_S → Prop} {σ : gs_S} {s0 : Int32} (h : post s0 σ) : G_A_weight_23 l v n post σ s0 := by
  exact g_iret d_A_weight_23 rfl h
theorem E_A_weight {l : Launch} {v : gs_V} {n : Nat} {post : Int32 → gs_S → Prop} {σ : gs_S} {x1 : Int32} {x2 : Int32} (h : G_A_weight_0 l v n post σ x1 x2) : gM l v lyC 42 me_A_weight (n + 1) [.ref (v.2.2 0), .int x1, .int x2] σ (qI v lyC 42 post) := gM_of (by decide +kernel) (Nat.le_of_ble_eq_true rfl) h
