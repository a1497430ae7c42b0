/-! LineRulesModel.before -/
theorem d_M_before_0 : decode me_M_before.2.1 0 = .ok (.aload_n 0, 1) := by decide +kernel
theorem d_M_before_1 : decode me_M_before.2.1 1 = .ok (.getfield 179, 3) := by decide +kernel
theorem d_M_before_4 : decode me_M_before.2.1 4 = .ok (.ifCond .ne 5, 3) := by decide +kernel
theorem d_M_before_7 : decode me_M_before.2.1 7 = .ok (.iconst (-1), 1) := by decide +kernel
theorem d_M_before_8 : decode me_M_before.2.1 8 = .ok (.ireturn, 1) := by decide +kernel
theorem d_M_before_9 : decode me_M_before.2.1 9 = .ok (.aload_n 0, 1) := by decide +kernel
theorem d_M_before_10 : decode me_M_before.2.1 10 = .ok (.invokevirtual 308, 3) := by decide +kernel
theorem d_M_before_13 : decode me_M_before.2.1 13 = .ok (.aload_n 0, 1) := by decide +kernel
theorem d_M_before_14 : decode me_M_before.2.1 14 = .ok (.getfield 291, 3) := by decide +kernel
theorem d_M_before_17 : decode me_M_before.2.1 17 = .ok (.ifCond .eq 7, 3) := by decide +kernel
theorem d_M_before_20 : decode me_M_before.2.1 20 = .ok (.iconst 1, 1) := by decide +kernel
theorem d_M_before_21 : decode me_M_before.2.1 21 = .ok (.goto 4, 3) := by decide +kernel
theorem d_M_before_24 : decode me_M_before.2.1 24 = .ok (.iconst 0, 1) := by decide +kernel
theorem d_M_before_25 : decode me_M_before.2.1 25 = .ok (.ireturn, 1) := by decide +kernel
abbrev G_M_before_0 (l : Launch) (v : gs_V) (n : Nat) (post : Int32 → gs_S → Prop) (σ : gs_S) : Prop := gG l v lyM 33 me_M_before n (qI v lyM 33 post) 0 [(0, .ref (v.2.2 0))] [] σ
abbrev G_M_before_25 (l : Launch) (v : gs_V) (n : Nat) (post : Int32 → gs_S → Prop) (σ : gs_S) (s0 : Int32) : Prop := gG l v lyM 33 me_M_before n (qI v lyM 33 post) 25 [] [.int s0] σ
set_option maxRecDepth 20000 in
set_option maxHeartbeats 1000000 in
theorem T_M_before_0 {l : Launch} {v : gs_V} {n : Nat} {post : Int32 → gs_S → Prop} {σ : gs_S} (h : ((¬ (σ.1 0 2) = 0 → gM l v lyM 33 me_M_findBefore n [.ref (v.2.2 0)] σ (qV v lyM 33 (fun σ1 => (((σ1.1 0 48) = 0 → G_M_before_25 l v n post σ1 0) ∧ (¬ (σ1.1 0 48) = 0 → G_M_before_25 l v n post σ1 1))))) ∧ ((σ.1 0 2) = 0 → post ((-1)) σ))) : G_M_before_0 l v n post σ := by
  refine g_aload_n d_M_before_0 0 rfl rfl ?_
  refine g_getV (x := .int (σ.1 0 2)) d_M_before_1 fl_M_179 (by decide) rfl rfl rfl ?_
  refine g_if_ne (tgt := 9) d_M_before_4 rfl (fun hc => ?_) (fun hc => ?_)
  · have h := h.1 hc
    refine g_aload_n d_M_before_9 0 rfl rfl ?_
    refine g_callVv (av := []) (rest := []) d_M_before_10 Y_M_findBefore lk_M_308 (by decide) rfl rfl I_M_findBefore rfl (Nat.le_of_ble_eq_true rfl) rfl h (fun σ1 h => ?_)
    refine g_aload_n d_M_before_13 0 rfl rfl ?_
    refine g_getV (x := .int (σ1.1 0 48)) d_M_before_14 fl_M_291 (by decide) rfl rfl rfl ?_
    refine g_if_eq (tgt := 24) d_M_before_17 rfl (fun hc => ?_) (fun hc => ?_)
    · have h := h.1 hc
      refine g_iconst d_M_before_24 (x := 0) (by decide) ?_
      exact g_sub [] rfl h
    · have h := h.2 hc
      refine g_iconst d_M_before_20 (x := 1) (by decide) ?_
      refine g_goto (tgt := 25) d_M_before_21 rfl ?_
      exact g_sub [] rfl h
  · have h := h.2 hc
    refine g_iconst d_M_before_7 (x := (-1)) (by decide) ?_
    exact g_iret d_M_before_8 rfl h
set_option maxRecDepth 20000 in
set_option maxHeartbeats 1000000 in
theorem T_M_before_25 {l : Launch} {v : gs_V} {n : Nat} {post : Int32 → gs_S → Prop} {σ : gs_S} {s0 : Int32} (h : post s0 σ) : G_M_before_25 l v n post σ s0 := by
  exact g_iret d_M_before_25 rfl h
theorem E_M_before {l : Launch} {v : gs_V} {n : Nat} {post : Int32 → gs_S → Prop} {σ : gs_S} (h : G_M_before_0 l v n post σ) : gM l v lyM 33 me_M_before (n + 1) [.ref (v.2.2 0)] σ (qI v lyM 33 post) := gM_of (by decide +kernel) (Nat.le_of_ble_eq_true rfl) h
/-! LineRulesModel.beforeAt -/
theorem d_M_beforeAt_0 : decode me_M_beforeAt.2.1 0 = .ok (.aload_n 0, 1) := by decide +kernel
theorem d_M_beforeAt_1 : decode me_M_beforeAt.2.1 1 = .ok (.getfield 179, 3) := by decide +kernel
theorem d_M_beforeAt_4 : decode me_M_beforeAt.2.1 4 = .ok (.ifCond .ne 5, 3) := by decide +kernel
theorem d_M_beforeAt_7 : decode me_M_beforeAt.2.1 7 = .ok (.iconst (-1), 1) := by decide +kernel
theorem d_M_beforeAt_8 : decode me_M_beforeAt.2.1 8 = .ok (.ireturn, 1) := by decide +kernel
theorem d_M_beforeAt_9 : decode me_M_beforeAt.2.1 9 = .ok (.aload_n 0, 1) := by decide +kernel
theorem d_M_beforeAt_10 : decode me_M_beforeAt.2.1 10 = .ok (.invokevirtual 308, 3) := by decide +kernel
theorem d_M_beforeAt_13 : decode me_M_beforeAt.2.1 13 = .ok (.aload_n 0, 1) := by decide +kernel
theorem d_M_beforeAt_14 : decode me_M_beforeAt.2.1 14 = .ok (.getfield 291, 3) := by decide +kernel
theorem d_M_beforeAt_17 : decode me_M_beforeAt.2.1 17 = .ok (.ifCond .eq 24, 3) := by decide +kernel
theorem d_M_beforeAt_20 : decode me_M_beforeAt.2.1 20 = .ok (.iload_n 1, 1) := by decide +kernel
theorem d_M_beforeAt_21 : decode me_M_beforeAt.2.1 21 = .ok (.ifCond .lt 20, 3) := by decide +kernel
theorem d_M_beforeAt_24 : decode me_M_beforeAt.2.1 24 = .ok (.iload_n 1, 1) := by decide +kernel
theorem d_M_beforeAt_25 : decode me_M_beforeAt.2.1 25 = .ok (.aload_n 0, 1) := by decide +kernel
theorem d_M_beforeAt_26 : decode me_M_beforeAt.2.1 26 = .ok (.getfield 16, 3) := by decide +kernel
theorem d_M_beforeAt_29 : decode me_M_beforeAt.2.1 29 = .ok (.if_icmp .ge 12, 3) := by decide +kernel
theorem d_M_beforeAt_32 : decode me_M_beforeAt.2.1 32 = .ok (.aload_n 0, 1) := by decide +kernel
theorem d_M_beforeAt_33 : decode me_M_beforeAt.2.1 33 = .ok (.getfield 100, 3) := by decide +kernel
theorem d_M_beforeAt_36 : decode me_M_beforeAt.2.1 36 = .ok (.iload_n 1, 1) := by decide +kernel
theorem d_M_beforeAt_37 : decode me_M_beforeAt.2.1 37 = .ok (.iaload, 1) := by decide +kernel
theorem d_M_beforeAt_38 : decode me_M_beforeAt.2.1 38 = .ok (.goto 4, 3) := by decide +kernel
theorem d_M_beforeAt_41 : decode me_M_beforeAt.2.1 41 = .ok (.iconst (-1), 1) := by decide +kernel
theorem d_M_beforeAt_42 : decode me_M_beforeAt.2.1 42 = .ok (.ireturn, 1) := by decide +kernel
abbrev G_M_beforeAt_0 (l : Launch) (v : gs_V) (n : Nat) (post : Int32 → gs_S → Prop) (σ : gs_S) (x1 : Int32) : Prop := gG l v lyM 33 me_M_beforeAt n (qI v lyM 33 post) 0 [(0, .ref (v.2.2 0)), (1, .int x1)] [] σ
abbrev G_M_beforeAt_41 (l : Launch) (v : gs_V) (n : Nat) (post : Int32 → gs_S → Prop) (σ : gs_S) : Prop := gG l v lyM 33 me_M_beforeAt n (qI v lyM 33 post) 41 [] [] σ
abbrev G_M_beforeAt_42 (l : Launch) (v : gs_V) (n : Nat) (post : Int32 → gs_S → Prop) (σ : gs_S) (s0 : Int32) : Prop := gG l v lyM 33 me_M_beforeAt n (qI v lyM 33 post) 42 [] [.int s0] σ
set_option maxRecDepth 20000 in
set_option maxHeartbeats 1000000 in
theorem T_M_beforeAt_0 {l : Launch} {v : gs_V} {n : Nat} {post : Int32 → gs_S → Prop} {σ : gs_S} {x1 : Int32} (h : ((¬ (σ.1 0 2) = 0 → gM l v lyM 33 me_M_findBefore n [.ref (v.2.2 0)] σ (qV v lyM 33 (fun σ1 => (((σ1.1 0 48) = 0 → G_M_beforeAt_41 l v n post σ1) ∧ (¬ (σ1.1 0 48) = 0 → ((x1 < 0 → G_M_beforeAt_41 l v n post σ1) ∧ (¬ x1 < 0 → (((σ1.1 0 7) ≤ x1 → G_M_beforeAt_41 l v n post σ1) ∧ (¬ (σ1.1 0 7) ≤ x1 → vp_in x1 68 ∧ G_M_beforeAt_42 l v n post σ1 (σ1.1 29 x1.toNatClampNeg)))))))))) ∧ ((σ.1 0 2) = 0 → post ((-1)) σ))) : G_M_beforeAt_0 l v n post σ x1 := by
  refine g_aload_n d_M_beforeAt_0 0 rfl rfl ?_
  refine g_getV (x := .int (σ.1 0 2)) d_M_beforeAt_1 fl_M_179 (by decide) rfl rfl rfl ?_
  refine g_if_ne (tgt := 9) d_M_beforeAt_4 rfl (fun hc => ?_) (fun hc => ?_)
  · have h := h.1 hc
    refine g_aload_n d_M_beforeAt_9 0 rfl rfl ?_
    refine g_callVv (av := []) (rest := []) d_M_beforeAt_10 Y_M_findBefore lk_M_308 (by decide) rfl rfl I_M_findBefore rfl (Nat.le_of_ble_eq_true rfl) rfl h (fun σ1 h => ?_)
    refine g_aload_n d_M_beforeAt_13 0 rfl rfl ?_
    refine g_getV (x := .int (σ1.1 0 48)) d_M_beforeAt_14 fl_M_291 (by decide) rfl rfl rfl ?_
    refine g_if_eq (tgt := 41) d_M_beforeAt_17 rfl (fun hc => ?_) (fun hc => ?_)
    · have h := h.1 hc
      exact g_sub [] rfl h
    · have h := h.2 hc
      refine g_iload_n d_M_beforeAt_20 1 rfl rfl ?_
      refine g_if_lt (tgt := 41) d_M_beforeAt_21 rfl (fun hc => ?_) (fun hc => ?_)
      · have h := h.1 hc
        exact g_sub [] rfl h
      · have h := h.2 hc
        refine g_iload_n d_M_beforeAt_24 1 rfl rfl ?_
        refine g_aload_n d_M_beforeAt_25 0 rfl rfl ?_
        refine g_getV (x := .int (σ1.1 0 7)) d_M_beforeAt_26 fl_M_16 (by decide) rfl rfl rfl ?_
        refine g_icmp_ge (tgt := 41) d_M_beforeAt_29 rfl (fun hc => ?_) (fun hc => ?_)
        · have h := h.1 hc
          exact g_sub [] rfl h
        · have h := h.2 hc
          refine g_aload_n d_M_beforeAt_32 0 rfl rfl ?_
          refine g_getV (x := .ref (v.2.2 29)) d_M_beforeAt_33 fl_M_100 (by decide) rfl rfl rfl ?_
          refine g_iload_n d_M_beforeAt_36 1 rfl rfl ?_
          have hi2 := h.1
          have h := h.2
          refine g_iald (x := σ1.1 29 x1.toNatClampNeg) d_M_beforeAt_37 (by decide) rfl hi2 rfl ?_
          refine g_goto (tgt := 42) d_M_beforeAt_38 rfl ?_
          exact g_sub [] rfl h
  · have h := h.2 hc
    refine g_iconst d_M_beforeAt_7 (x := (-1)) (by decide) ?_
    exact g_iret d_M_beforeAt_8 rfl h
set_option maxRecDepth 20000 in
set_option maxHeartbeats 1000000 in
theorem T_M_beforeAt_41 {l : Launch} {v : gs_V} {n : Nat} {post : Int32 → gs_S → Prop} {σ : gs_S} (h : G_M_beforeAt_42 l v n post σ ((-1))) : G_M_beforeAt_41 l v n post σ := by
  refine g_iconst d_M_beforeAt_41 (x := (-1)) (by decide) ?_
  exact h
set_option maxRecDepth 20000 in
set_option maxHeartbeats 1000000 in
theorem T_M_beforeAt_42 {l : Launch} {v : gs_V} {n : Nat} {post : Int32 → gs_S → Prop} {σ : gs_S} {s0 : Int32} (h : post s0 σ) : G_M_beforeAt_42 l v n post σ s0 := by
  exact g_iret d_M_beforeAt_42 rfl h
theorem E_M_beforeAt {l : Launch} {v : gs_V} {n : Nat} {post : Int32 → gs_S → Prop} {σ : gs_S} {x1 : Int32} (h : G_M_beforeAt_0 l v n post σ x1) : gM l v lyM 33 me_M_beforeAt (n + 1) [.ref (v.2.2 0), .int x1] σ (qI v lyM 33 post) := gM_of (by decide +kernel) (Nat.le_of_ble_eq_true rfl) h
/-! LineRulesModel.conserved -/
theorem d_M_conserved_0 : decode me_M_conserved.2.1 0 = .ok (.aload_n 0, 1) := by decide +kernel
theorem d_M_conserved_1 : decode me_M_conserved.2.1 1 = .ok (.getfield 179, 3) := by decide +kernel
theorem d_M_conserved_4 : decode me_M_conserved.2.1 4 = .ok (.ifCond .ne 5, 3) := by decide +kernel
theorem d_M_conserved_7 : decode me_M_conserved.2.1 7 = .ok (.iconst (-1), 1) := by decide +kernel
theorem d_M_conserved_8 : decode me_M_conserved.2.1 8 = .ok (.ireturn, 1) := by decide +kernel
theorem d_M_conserved_9 : decode me_M_conserved.2.1 9 = .ok (.aload_n 0, 1) := by decide +kernel
theorem d_M_conserved_10 : decode me_M_conserved.2.1 10 = .ok (.invokevirtual 267, 3) := by decide +kernel
theorem d_M_conserved_13 : decode me_M_conserved.2.1 13 = .ok (.aload_n 0, 1) := by decide +kernel
theorem d_M_conserved_14 : decode me_M_conserved.2.1 14 = .ok (.getfield 255, 3) := by decide +kernel
theorem d_M_conserved_17 : decode me_M_conserved.2.1 17 = .ok (.ireturn, 1) := by decide +kernel
abbrev G_M_conserved_0 (l : Launch) (v : gs_V) (n : Nat) (post : Int32 → gs_S → Prop) (σ : gs_S) : Prop := gG l v lyM 33 me_M_conserved n (qI v lyM 33 post) 0 [(0, .ref (v.2.2 0))] [] σ
set_option maxRecDepth 20000 in
set_option maxHeartbeats 1000000 in
theorem T_M_conserved_0 {l : Launch} {v : gs_V} {n : Nat} {post : Int32 → gs_S → Prop} {σ : gs_S} (h : ((¬ (σ.1 0 2) = 0 → gM l v lyM 33 me_M_findWeights n [.ref (v.2.2 0)] σ (qV v lyM 33 (fun σ1 => post (σ1.1 0 36) σ1))) ∧ ((σ.1 0 2) = 0 → post ((-1)) σ))) : G_M_conserved_0 l v n post σ := by
  refine g_aload_n d_M_conserved_0 0 rfl rfl ?_
  refine g_getV (x := .int (σ.1 0 2)) d_M_conserved_1 fl_M_179 (by decide) rfl rfl rfl ?_
  refine g_if_ne (tgt := 9) d_M_conserved_4 rfl (fun hc => ?_) (fun hc => ?_)
  · have h := h.1 hc
    refine g_aload_n d_M_conserved_9 0 rfl rfl ?_
    refine g_callVv (av := []) (rest := []) d_M_conserved_10 Y_M_findWeights lk_M_267 (by decide) rfl rfl I_M_findWeights rfl (Nat.le_of_ble_eq_true rfl) rfl h (fun σ1 h => ?_)
    refine g_aload_n d_M_conserved_13 0 rfl rfl ?_
    refine g_getV (x := .int (σ1.1 0 36)) d_M_conserved_14 fl_M_255 (by decide) rfl rfl rfl ?_
    exact g_iret d_M_conserved_17 rfl h
  · have h := h.2 hc
    refine g_iconst d_M_conserved_7 (x := (-1)) (by decide) ?_
    exact g_iret d_M_conserved_8 rfl h
theorem E_M_conserved {l : Launch} {v : gs_V} {n : Nat} {post : Int32 → gs_S → Prop} {σ : gs_S} (h : G_M_conserved_0 l v n post σ) : gM l v lyM 33 me_M_conserved (n + 1) [.ref (v.2.2 0)] σ (qI v lyM 33 post) := gM_of (by decide +kernel) (Nat.le_of_ble_eq_true rfl) h
/-! LineRulesModel.get -/
theorem d_M_get_0 : decode me_M_get.2.1 0 = .ok (.iload_n 1, 1) := by decide +kernel
theorem d_M_get_1 : decode me_M_get.2.1 1 = .ok (.ifCond .lt 20, 3) := by decide +kernel
theorem d_M_get_4 : decode me_M_get.2.1 4 = .ok (.iload_n 1, 1) := by decide +kernel
theorem d_M_get_5 : decode me_M_get.2.1 5 = .ok (.aload_n 0, 1) := by decide +kernel
theorem d_M_get_6 : decode me_M_get.2.1 6 = .ok (.getfield 16, 3) := by decide +kernel
theorem d_M_get_9 : decode me_M_get.2.1 9 = .ok (.if_icmp .ge 12, 3) := by decide +kernel
theorem d_M_get_12 : decode me_M_get.2.1 12 = .ok (.aload_n 0, 1) := by decide +kernel
theorem d_M_get_13 : decode me_M_get.2.1 13 = .ok (.getfield 20, 3) := by decide +kernel
theorem d_M_get_16 : decode me_M_get.2.1 16 = .ok (.iload_n 1, 1) := by decide +kernel
theorem d_M_get_17 : decode me_M_get.2.1 17 = .ok (.iaload, 1) := by decide +kernel
theorem d_M_get_18 : decode me_M_get.2.1 18 = .ok (.goto 4, 3) := by decide +kernel
theorem d_M_get_21 : decode me_M_get.2.1 21 = .ok (.iconst (-1), 1) := by decide +kernel
theorem d_M_get_22 : decode me_M_get.2.1 22 = .ok (.ireturn, 1) := by decide +kernel
abbrev G_M_get_0 (l : Launch) (v : gs_V) (n : Nat) (post : Int32 → gs_S → Prop) (σ : gs_S) (x1 : Int32) : Prop := gG l v lyM 33 me_M_get n (qI v lyM 33 post) 0 [(0, .ref (v.2.2 0)), (1, .int x1)] [] σ
abbrev G_M_get_21 (l : Launch) (v : gs_V) (n : Nat) (post : Int32 → gs_S → Prop) (σ : gs_S) : Prop := gG l v lyM 33 me_M_get n (qI v lyM 33 post) 21 [] [] σ
abbrev G_M_get_22 (l : Launch) (v : gs_V) (n : Nat) (post : Int32 → gs_S → Prop) (σ : gs_S) (s0 : Int32) : Prop := gG l v lyM 33 me_M_get n (qI v lyM 33 post) 22 [] [.int s0] σ
set_option maxRecDepth 20000 in
set_option maxHeartbeats 1000000 in
theorem T_M_get_0 {l : Launch} {v : gs_V} {n : Nat} {post : Int32 → gs_S → Prop} {σ : gs_S} {x1 : Int32} (h : ((x1 < 0 → G_M_get_21 l v n post σ) ∧ (¬ x1 < 0 → (((σ.1 0 7) ≤ x1 → G_M_get_21 l v n post σ) ∧ (¬ (σ.1 0 7) ≤ x1 → vp_in x1 64 ∧ G_M_get_22 l v n post σ (σ.1 3 x1.toNatClampNeg)))))) : G_M_get_0 l v n post σ x1 := by
  refine g_iload_n d_M_get_0 1 rfl rfl ?_
  refine g_if_lt (tgt := 21) d_M_get_1 rfl (fun hc => ?_) (fun hc => ?_)
  · have h := h.1 hc
    exact g_sub [] rfl h
  · have h := h.2 hc
    refine g_iload_n d_M_get_4 1 rfl rfl ?_
    refine g_aload_n d_M_get_5 0 rfl rfl ?_
    refine g_getV (x := .int (σ.1 0 7)) d_M_get_6 fl_M_16 (by decide) rfl rfl rfl ?_
    refine g_icmp_ge (tgt := 21) d_M_get_9 rfl (fun hc => ?_) (fun hc => ?_)
    · have h := h.1 hc
      exact g_sub [] rfl h
    · have h := h.2 hc
      refine g_aload_n d_M_get_12 0 rfl rfl ?_
      refine g_getV (x := .ref (v.2.2 3)) d_M_get_13 fl_M_20 (by decide) rfl rfl rfl ?_
      refine g_iload_n d_M_get_16 1 rfl rfl ?_
      have hi1 := h.1
      have h := h.2
      refine g_iald (x := σ.1 3 x1.toNatClampNeg) d_M_get_17 (by decide) rfl hi1 rfl ?_
      refine g_goto (tgt := 22) d_M_get_18 rfl ?_
      exact g_sub [] rfl h
set_option maxRecDepth 20000 in
set_option maxHeartbeats 1000000 in
theorem T_M_get_21 {l : Launch} {v : gs_V} {n : Nat} {post : Int32 → gs_S → Prop} {σ : gs_S} (h : G_M_get_22 l v n post σ ((-1))) : G_M_get_21 l v n post σ := by
  refine g_iconst d_M_get_21 (x := (-1)) (by decide) ?_
  exact h
set_option maxRecDepth 20000 in
set_option maxHeartbeats 1000000 in
theorem T_M_get_22 {l : Launch} {v : gs_V} {n : Nat} {post : Int32 → gs_S → Prop} {σ : gs_S} {s0 : Int32} (h : post s0 σ) : G_M_get_22 l v n post σ s0 := by
  exact g_iret d_M_get_22 rfl h
theorem E_M_get {l : Launch} {v : gs_V} {n : Nat} {post : Int32 → gs_S → Prop} {σ : gs_S} {x1 : Int32} (h : G_M_get_0 l v n post σ x1) : gM l v lyM 33 me_M_get (n + 1) [.ref (v.2.2 0), .int x1] σ (qI v lyM 33 post) := gM_of (by decide +kernel) (Nat.le_of_ble_eq_true rfl) h
/-! LineRulesModel.injective -/
theorem d_M_injective_0 : decode me_M_injective.2.1 0 = .ok (.aload_n 0, 1) := by decide +kernel
theorem d_M_injective_1 : decode me_M_injective.2.1 1 = .ok (.getfield 179, 3) := by decide +kernel
theorem d_M_injective_4 : decode me_M_injective.2.1 4 = .ok (.ifCond .ne 5, 3) := by decide +kernel
theorem d_M_injective_7 : decode me_M_injective.2.1 7 = .ok (.iconst (-1), 1) := by decide +kernel
theorem d_M_injective_8 : decode me_M_injective.2.1 8 = .ok (.ireturn, 1) := by decide +kernel
theorem d_M_injective_9 : decode me_M_injective.2.1 9 = .ok (.aload_n 0, 1) := by decide +kernel
theorem d_M_injective_10 : decode me_M_injective.2.1 10 = .ok (.getfield 197, 3) := by decide +kernel
theorem d_M_injective_13 : decode me_M_injective.2.1 13 = .ok (.ifCond .ne 44, 3) := by decide +kernel
theorem d_M_injective_16 : decode me_M_injective.2.1 16 = .ok (.aload_n 0, 1) := by decide +kernel
theorem d_M_injective_17 : decode me_M_injective.2.1 17 = .ok (.getfield 182, 3) := by decide +kernel
theorem d_M_injective_20 : decode me_M_injective.2.1 20 = .ok (.iconst 1, 1) := by decide +kernel
theorem d_M_injective_21 : decode me_M_injective.2.1 21 = .ok (.if_icmp .ne 10, 3) := by decide +kernel
theorem d_M_injective_24 : decode me_M_injective.2.1 24 = .ok (.aload_n 0, 1) := by decide +kernel
theorem d_M_injective_25 : decode me_M_injective.2.1 25 = .ok (.invokevirtual 223, 3) := by decide +kernel
theorem d_M_injective_28 : decode me_M_injective.2.1 28 = .ok (.goto 15, 3) := by decide +kernel
theorem d_M_injective_31 : decode me_M_injective.2.1 31 = .ok (.aload_n 0, 1) := by decide +kernel
theorem d_M_injective_32 : decode me_M_injective.2.1 32 = .ok (.invokevirtual 230, 3) := by decide +kernel
theorem d_M_injective_35 : decode me_M_injective.2.1 35 = .ok (.ifCond .ne 7, 3) := by decide +kernel
theorem d_M_injective_38 : decode me_M_injective.2.1 38 = .ok (.iconst 1, 1) := by decide +kernel
theorem d_M_injective_39 : decode me_M_injective.2.1 39 = .ok (.goto 4, 3) := by decide +kernel
theorem d_M_injective_42 : decode me_M_injective.2.1 42 = .ok (.iconst 0, 1) := by decide +kernel
theorem d_M_injective_43 : decode me_M_injective.2.1 43 = .ok (.istore_n 1, 1) := by decide +kernel
theorem d_M_injective_44 : decode me_M_injective.2.1 44 = .ok (.aload_n 0, 1) := by decide +kernel
theorem d_M_injective_45 : decode me_M_injective.2.1 45 = .ok (.iload_n 1, 1) := by decide +kernel
theorem d_M_injective_46 : decode me_M_injective.2.1 46 = .ok (.ifCond .eq 7, 3) := by decide +kernel
theorem d_M_injective_49 : decode me_M_injective.2.1 49 = .ok (.iconst 2, 1) := by decide +kernel
theorem d_M_injective_50 : decode me_M_injective.2.1 50 = .ok (.goto 4, 3) := by decide +kernel
theorem d_M_injective_53 : decode me_M_injective.2.1 53 = .ok (.iconst 1, 1) := by decide +kernel
theorem d_M_injective_54 : decode me_M_injective.2.1 54 = .ok (.putfield 197, 3) := by decide +kernel
theorem d_M_injective_57 : decode me_M_injective.2.1 57 = .ok (.aload_n 0, 1) := by decide +kernel
theorem d_M_injective_58 : decode me_M_injective.2.1 58 = .ok (.getfield 197, 3) := by decide +kernel
theorem d_M_injective_61 : decode me_M_injective.2.1 61 = .ok (.iconst 1, 1) := by decide +kernel
theorem d_M_injective_62 : decode me_M_injective.2.1 62 = .ok (.isub, 1) := by decide +kernel
theorem d_M_injective_63 : decode me_M_injective.2.1 63 = .ok (.ireturn, 1) := by decide +kernel
abbrev G_M_injective_0 (l : Launch) (v : gs_V) (n : Nat) (post : Int32 → gs_S → Prop) (σ : gs_S) : Prop := gG l v lyM 33 me_M_injective n (qI v lyM 33 post) 0 [(0, .ref (v.2.2 0))] [] σ
abbrev G_M_injective_43 (l : Launch) (v : gs_V) (n : Nat) (post : Int32 → gs_S → Prop) (σ : gs_S) (s0 : Int32) : Prop := gG l v lyM 33 me_M_injective n (qI v lyM 33 post) 43 [(0, .ref (v.2.2 0))] [.int s0] σ
abbrev G_M_injective_54 (l : Launch) (v : gs_V) (n : Nat) (post : Int32 → gs_S → Prop) (σ : gs_S) (s0 : Int32) : Prop := gG l v lyM 33 me_M_injective n (qI v lyM 33 post) 54 [(0, .ref (v.2.2 0))] [.int s0, .ref (v.2.2 0)] σ
abbrev G_M_injective_57 (l : Launch) (v : gs_V) (n : Nat) (post : Int32 → gs_S → Prop) (σ : gs_S) : Prop := gG l v lyM 33 me_M_injective n (qI v lyM 33 post) 57 [(0, .ref (v.2.2 0))] [] σ
set_option maxRecDepth 20000 in
set_option maxHeartbeats 1000000 in
theorem T_M_injective_0 {l : Launch} {v : gs_V} {n : Nat} {post : Int32 → gs_S → Prop} {σ : gs_S} (h : ((¬ (σ.1 0 2) = 0 → ((¬ (σ.1 0 29) = 0 → G_M_injective_57 l v n post σ) ∧ ((σ.1 0 29) = 0 → ((¬ (σ.1 0 3) = 1 → gM l v lyM 33 me_M_anyPair n [.ref (v.2.2 0)] σ (qI v lyM 33 (fun r1 σ1 => ((¬ r1 = 0 → G_M_injective_43 l v n post σ1 0) ∧ (r1 = 0 → G_M_injective_43 l v n post σ1 1))))) ∧ ((σ.1 0 3) = 1 → gM l v lyM 33 me_M_makesAll n [.ref (v.2.2 0)] σ (qI v lyM 33 (fun r2 σ2 => G_M_injective_43 l v n post σ2 r2))))))) ∧ ((σ.1 0 2) = 0 → post ((-1)) σ))) : G_M_injective_0 l v n post σ := by
  refine g_aload_n d_M_injective_0 0 rfl rfl ?_
  refine g_getV (x := .int (σ.1 0 2)) d_M_injective_1 fl_M_179 (by decide) rfl rfl rfl ?_
  refine g_if_ne (tgt := 9) d_M_injective_4 rfl (fun hc => ?_) (fun hc => ?_)
  · have h := h.1 hc
    refine g_aload_n d_M_injective_9 0 rfl rfl ?_
    refine g_getV (x := .int (σ.1 0 29)) d_M_injective_10 fl_M_197 (by decide) rfl rfl rfl ?_
    refine g_if_ne (tgt := 57) d_M_injective_13 rfl (fun hc => ?_) (fun hc => ?_)
    · have h := h.1 hc
      exact h
    · have h := h.2 hc
      refine g_aload_n d_M_injective_16 0 rfl rfl ?_
      refine g_getV (x := .int (σ.1 0 3)) d_M_injective_17 fl_M_182 (by decide) rfl rfl rfl ?_
      refine g_iconst d_M_injective_20 (x := 1) (by decide) ?_
      refine g_icmp_ne (tgt := 31) d_M_injective_21 rfl (fun hc => ?_) (fun hc => ?_)
      · have h := h.1 hc
        refine g_aload_n d_M_injective_31 0 rfl rfl ?_
        refine g_callVi (av := []) (rest := []) d_M_injective_32 Y_M_anyPair lk_M_230 (by decide) rfl rfl I_M_anyPair rfl (Nat.le_of_ble_eq_true rfl) rfl h (fun r1 σ1 h => ?_)
        refine g_if_ne (tgt := 42) d_M_injective_35 rfl (fun hc => ?_) (fun hc => ?_)
        · have h := h.1 hc
          refine g_iconst d_M_injective_42 (x := 0) (by decide) ?_
          exact h
        · have h := h.2 hc
          refine g_iconst d_M_injective_38 (x := 1) (by decide) ?_
          refine g_goto (tgt := 43) d_M_injective_39 rfl ?_
          exact h
      · have h := h.2 hc
        refine g_aload_n d_M_injective_24 0 rfl rfl ?_
        refine g_callVi (av := []) (rest := []) d_M_injective_25 Y_M_makesAll lk_M_223 (by decide) rfl rfl I_M_makesAll rfl (Nat.le_of_ble_eq_true rfl) rfl h (fun r2 σ2 h => ?_)
        refine g_goto (tgt := 43) d_M_injective_28 rfl ?_
        exact h
  · have h := h.2 hc
    refine g_iconst d_M_injective_7 (x := (-1)) (by decide) ?_
    exact g_iret d_M_injective_8 rfl h
set_option maxRecDepth 20000 in
set_option maxHeartbeats 1000000 in
theorem T_M_injective_43 {l : Launch} {v : gs_V} {n : Nat} {post : Int32 → gs_S → Prop} {σ : gs_S} {s0 : Int32} (h : ((s0 = 0 → G_M_injective_54 l v n post σ 1) ∧ (¬ s0 = 0 → G_M_injective_54 l v n post σ 2))) : G_M_injective_43 l v n post σ s0 := by
  refine g_istore_n (L' := [(1, .int s0), (0, .ref (v.2.2 0))]) d_M_injective_43 rfl (by decide) rfl ?_
  refine g_aload_n d_M_injective_44 1 rfl rfl ?_
  refine g_iload_n d_M_injective_45 0 rfl rfl ?_
  refine g_if_eq (tgt := 53) d_M_injective_46 rfl (fun hc => ?_) (fun hc => ?_)
  · have h := h.1 hc
    refine g_iconst d_M_injective_53 (x := 1) (by decide) ?_
    exact g_sub [1] rfl h
  · have h := h.2 hc
    refine g_iconst d_M_injective_49 (x := 2) (by decide) ?_
    refine g_goto (tgt := 54) d_M_injective_50 rfl ?_
    exact g_sub [1] rfl h
set_option maxRecDepth 20000 in
set_option maxHeartbeats 1000000 in
theorem T_M_injective_54 {l : Launch} {v : gs_V} {n : Nat} {post : Int32 → gs_S → Prop} {σ : gs_S} {s0 : Int32} (h : G_M_injective_57 l v n post (gs_pI σ 0 29 s0)) : G_M_injective_54 l v n post σ s0 := by
  refine g_putI d_M_injective_54 fp_M_197 (by decide) rfl rfl ⟨rfl, rfl⟩ ?_
  exact h
set_option maxRecDepth 20000 in
set_option maxHeartbeats 1000000 in
theorem T_M_injective_57 {l : Launch} {v : gs_V} {n : Nat} {post : Int32 → gs_S → Prop} {σ : gs_S} (h : post ((σ.1 0 29) - 1) σ) : G_M_injective_57 l v n post σ := by
  refine g_aload_n d_M_injective_57 0 rfl rfl ?_
  refine g_getV (x := .int (σ.1 0 29)) d_M_injective_58 fl_M_197 (by decide) rfl rfl rfl ?_
  refine g_iconst d_M_injective_61 (x := 1) (by decide) ?_
  refine g_isub d_M_injective_62 ?_
  exact g_iret d_M_injective_63 rfl h
theorem E_M_injective {l : Launch} {v : gs_V} {n : Nat} {post : Int32 → gs_S → Prop} {σ : gs_S} (h : G_M_injective_0 l v n post σ) : gM l v lyM 33 me_M_injective (n + 1) [.ref (v.2.2 0)] σ (qI v lyM 33 post) := gM_of (by decide +kernel) (Nat.le_of_ble_eq_true rfl) h
/-! LineRulesModel.inverse -/
theorem d_M_inverse_0 : decode me_M_inverse.2.1 0 = .ok (.aload_n 0, 1) := by decide +kernel
theorem d_M_inverse_1 : decode me_M_inverse.2.1 1 = .ok (.getfield 179, 3) := by decide +kernel
theorem d_M_inverse_4 : decode me_M_inverse.2.1 4 = .ok (.ifCond .eq 12, 3) := by decide +kernel
theorem d_M_inverse_7 : decode me_M_inverse.2.1 7 = .ok (.iload_n 1, 1) := by decide +kernel
theorem d_M_inverse_8 : decode me_M_inverse.2.1 8 = .ok (.ifCond .lt 8, 3) := by decide +kernel
theorem d_M_inverse_11 : decode me_M_inverse.2.1 11 = .ok (.iload_n 1, 1) := by decide +kernel
theorem d_M_inverse_12 : decode me_M_inverse.2.1 12 = .ok (.iconst 1, 1) := by decide +kernel
theorem d_M_inverse_13 : decode me_M_inverse.2.1 13 = .ok (.if_icmp .le 5, 3) := by decide +kernel
theorem d_M_inverse_16 : decode me_M_inverse.2.1 16 = .ok (.iconst (-1), 1) := by decide +kernel
theorem d_M_inverse_17 : decode me_M_inverse.2.1 17 = .ok (.ireturn, 1) := by decide +kernel
theorem d_M_inverse_18 : decode me_M_inverse.2.1 18 = .ok (.aload_n 0, 1) := by decide +kernel
theorem d_M_inverse_19 : decode me_M_inverse.2.1 19 = .ok (.invokevirtual 245, 3) := by decide +kernel
theorem d_M_inverse_22 : decode me_M_inverse.2.1 22 = .ok (.iload_n 1, 1) := by decide +kernel
theorem d_M_inverse_23 : decode me_M_inverse.2.1 23 = .ok (.ifCond .ne 10, 3) := by decide +kernel
theorem d_M_inverse_26 : decode me_M_inverse.2.1 26 = .ok (.aload_n 0, 1) := by decide +kernel
theorem d_M_inverse_27 : decode me_M_inverse.2.1 27 = .ok (.getfield 236, 3) := by decide +kernel
theorem d_M_inverse_30 : decode me_M_inverse.2.1 30 = .ok (.goto 7, 3) := by decide +kernel
theorem d_M_inverse_33 : decode me_M_inverse.2.1 33 = .ok (.aload_n 0, 1) := by decide +kernel
theorem d_M_inverse_34 : decode me_M_inverse.2.1 34 = .ok (.getfield 239, 3) := by decide +kernel
theorem d_M_inverse_37 : decode me_M_inverse.2.1 37 = .ok (.ireturn, 1) := by decide +kernel
abbrev G_M_inverse_0 (l : Launch) (v : gs_V) (n : Nat) (post : Int32 → gs_S → Prop) (σ : gs_S) (x1 : Int32) : Prop := gG l v lyM 33 me_M_inverse n (qI v lyM 33 post) 0 [(0, .ref (v.2.2 0)), (1, .int x1)] [] σ
abbrev G_M_inverse_16 (l : Launch) (v : gs_V) (n : Nat) (post : Int32 → gs_S → Prop) (σ : gs_S) : Prop := gG l v lyM 33 me_M_inverse n (qI v lyM 33 post) 16 [] [] σ
abbrev G_M_inverse_37 (l : Launch) (v : gs_V) (n : Nat) (post : Int32 → gs_S → Prop) (σ : gs_S) (s0 : Int32) : Prop := gG l v lyM 33 me_M_inverse n (qI v lyM 33 post) 37 [] [.int s0] σ
set_option maxRecDepth 20000 in
set_option maxHeartbeats 1000000 in
theorem T_M_inverse_0 {l : Launch} {v : gs_V} {n : Nat} {post : Int32 → gs_S → Prop} {σ : gs_S} {x1 : Int32} (h : (((σ.1 0 2) = 0 → G_M_inverse_16 l v n post σ) ∧ (¬ (σ.1 0 2) = 0 → ((x1 < 0 → G_M_inverse_16 l v n post σ) ∧ (¬ x1 < 0 → ((x1 ≤ 1 → gM l v lyM 33 me_M_findInverse n [.ref (v.2.2 0)] σ (qV v lyM 33 (fun σ1 => ((¬ x1 = 0 → G_M_inverse_37 l v n post σ1 (σ1.1 0 33)) ∧ (x1 = 0 → G_M_inverse_37 l v n post σ1 (σ1.1 0 32)))))) ∧ (¬ x1 ≤ 1 → G_M_inverse_16 l v n post σ))))))) : G_M_inverse_0 l v n post σ x1 := by
  refine g_aload_n d_M_inverse_0 0 rfl rfl ?_
  refine g_getV (x := .int (σ.1 0 2)) d_M_inverse_1 fl_M_179 (by decide) rfl rfl rfl ?_
  refine g_if_eq (tgt := 16) d_M_inverse_4 rfl (fun hc => ?_) (fun hc => ?_)
  · have h := h.1 hc
    exact g_sub [] rfl h
  · have h := h.2 hc
    refine g_iload_n d_M_inverse_7 1 rfl rfl ?_
    refine g_if_lt (tgt := 16) d_M_inverse_8 rfl (fun hc => ?_) (fun hc => ?_)
    · have h := h.1 hc
      exact g_sub [] rfl h
    · have h := h.2 hc
      refine g_iload_n d_M_inverse_11 1 rfl rfl ?_
      refine g_iconst d_M_inverse_12 (x := 1) (by decide) ?_
      refine g_icmp_le (tgt := 18) d_M_inverse_13 rfl (fun hc => ?_) (fun hc => ?_)
      · have h := h.1 hc
        refine g_aload_n d_M_inverse_18 0 rfl rfl ?_
        refine g_callVv (av := []) (rest := []) d_M_inverse_19 Y_M_findInverse lk_M_245 (by decide) rfl rfl I_M_findInverse rfl (Nat.le_of_ble_eq_true rfl) rfl h (fun σ1 h => ?_)
        refine g_iload_n d_M_inverse_22 1 rfl rfl ?_
        refine g_if_ne (tgt := 33) d_M_inverse_23 rfl (fun hc => ?_) (fun hc => ?_)
        · have h := h.1 hc
          refine g_aload_n d_M_inverse_33 0 rfl rfl ?_
          refine g_getV (x := .int (σ1.1 0 33)) d_M_inverse_34 fl_M_239 (by decide) rfl rfl rfl ?_
          exact g_sub [] rfl h
        · have h := h.2 hc
          refine g_aload_n d_M_inverse_26 0 rfl rfl ?_
          refine g_getV (x := .int (σ1.1 0 32)) d_M_inverse_27 fl_M_236 (by decide) rfl rfl rfl ?_
          refine g_goto (tgt := 37) d_M_inverse_30 rfl ?_
          exact g_sub [] rfl h
      · have h := h.2 hc
        exact g_sub [] rfl h
set_option maxRecDepth 20000 in
set_option maxHeartbeats 1000000 in
theorem T_M_inverse_16 {l : Launch} {v : gs_V} {n : Nat} {post : Int32 → gs_S → Prop} {σ : gs_S} (h : post ((-1)) σ) : G_M_inverse_16 l v n post σ := by
  refine g_iconst d_M_inverse_16 (x := (-1)) (by decide) ?_
  exact g_iret d_M_inverse_17 rfl h
set_option maxRecDepth 20000 in
set_option maxHeartbeats 1000000 in
theorem T_M_inverse_37 {l : Launch} {v : gs_V} {n : Nat} {post : Int32 → gs_S → Prop} {σ : gs_S} {s0 : Int32} (h : post s0 σ) : G_M_inverse_37 l v n post σ s0 := by
  exact g_iret d_M_inverse_37 rfl h
theorem E_M_inverse {l : Launch} {v : gs_V} {n : Nat} {post : Int32 → gs_S → Prop} {σ : gs_S} {x1 : Int32} (h : G_M_inverse_0 l v n post σ x1) : gM l v lyM 33 me_M_inverse (n + 1) [.ref (v.2.2 0), .int x1] σ (qI v lyM 33 post) := gM_of (by decide +kernel) (Nat.le_of_ble_eq_true rfl) h
/-! LineRulesModel.load -/
theorem d_M_load_0 : decode me_M_load.2.1 0 = .ok (.iload_n 1, 1) := by decide +kernel
theorem d_M_load_1 : decode me_M_load.2.1 1 = .ok (.bipush 32, 2) := by decide +kernel
theorem d_M_load_3 : decode me_M_load.2.1 3 = .ok (.if_icmp .lt 9, 3) := by decide +kernel
theorem d_M_load_6 : decode me_M_load.2.1 6 = .ok (.iload_n 1, 1) := by decide +kernel
theorem d_M_load_7 : decode me_M_load.2.1 7 = .ok (.bipush 126, 2) := by decide +kernel
theorem d_M_load_9 : decode me_M_load.2.1 9 = .ok (.if_icmp .le 5, 3) := by decide +kernel
theorem d_M_load_12 : decode me_M_load.2.1 12 = .ok (.iconst (-1), 1) := by decide +kernel
theorem d_M_load_13 : decode me_M_load.2.1 13 = .ok (.ireturn, 1) := by decide +kernel
theorem d_M_load_14 : decode me_M_load.2.1 14 = .ok (.aload_n 0, 1) := by decide +kernel
theorem d_M_load_15 : decode me_M_load.2.1 15 = .ok (.getfield 112, 3) := by decide +kernel
theorem d_M_load_18 : decode me_M_load.2.1 18 = .ok (.bipush 64, 2) := by decide +kernel
theorem d_M_load_20 : decode me_M_load.2.1 20 = .ok (.if_icmp .ne 6, 3) := by decide +kernel
theorem d_M_load_23 : decode me_M_load.2.1 23 = .ok (.bipush (-2), 2) := by decide +kernel
theorem d_M_load_25 : decode me_M_load.2.1 25 = .ok (.ireturn, 1) := by decide +kernel
theorem d_M_load_26 : decode me_M_load.2.1 26 = .ok (.aload_n 0, 1) := by decide +kernel
theorem d_M_load_27 : decode me_M_load.2.1 27 = .ok (.getfield 7, 3) := by decide +kernel
theorem d_M_load_30 : decode me_M_load.2.1 30 = .ok (.aload_n 0, 1) := by decide +kernel
theorem d_M_load_31 : decode me_M_load.2.1 31 = .ok (.getfield 112, 3) := by decide +kernel
theorem d_M_load_34 : decode me_M_load.2.1 34 = .ok (.iload_n 1, 1) := by decide +kernel
theorem d_M_load_35 : decode me_M_load.2.1 35 = .ok (.iastore, 1) := by decide +kernel
theorem d_M_load_36 : decode me_M_load.2.1 36 = .ok (.aload_n 0, 1) := by decide +kernel
theorem d_M_load_37 : decode me_M_load.2.1 37 = .ok (.dup, 1) := by decide +kernel
theorem d_M_load_38 : decode me_M_load.2.1 38 = .ok (.getfield 112, 3) := by decide +kernel
theorem d_M_load_41 : decode me_M_load.2.1 41 = .ok (.iconst 1, 1) := by decide +kernel
theorem d_M_load_42 : decode me_M_load.2.1 42 = .ok (.iadd, 1) := by decide +kernel
theorem d_M_load_43 : decode me_M_load.2.1 43 = .ok (.putfield 112, 3) := by decide +kernel
theorem d_M_load_46 : decode me_M_load.2.1 46 = .ok (.aload_n 0, 1) := by decide +kernel
theorem d_M_load_47 : decode me_M_load.2.1 47 = .ok (.getfield 112, 3) := by decide +kernel
theorem d_M_load_50 : decode me_M_load.2.1 50 = .ok (.ireturn, 1) := by decide +kernel
abbrev G_M_load_0 (l : Launch) (v : gs_V) (n : Nat) (post : Int32 → gs_S → Prop) (σ : gs_S) (x1 : Int32) : Prop := gG l v lyM 33 me_M_load n (qI v lyM 33 post) 0 [(0, .ref (v.2.2 0)), (1, .int x1)] [] σ
abbrev G_M_load_12 (l : Launch) (v : gs_V) (n : Nat) (post : Int32 → gs_S → Prop) (σ : gs_S) : Prop := gG l v lyM 33 me_M_load n (qI v lyM 33 post) 12 [] [] σ
set_option maxRecDepth 20000 in
set_option maxHeartbeats 1000000 in
theorem T_M_load_0 {l : Launch} {v : gs_V} {n : Nat} {post : Int32 → gs_S → Prop} {σ : gs_S} {x1 : Int32} (h : ((x1 < 32 → G_M_load_12 l v n post σ) ∧ (¬ x1 < 32 → ((x1 ≤ 126 → ((¬ (σ.1 0 0) = 64 → vp_in (σ.1 0 0) 64 ∧ post ((σ.1 0 0) + 1) (gs_pI (gs_pI σ 1 ((σ.1 0 0).toNatClampNeg) x1) 0 0 ((σ.1 0 0) + 1))) ∧ ((σ.1 0 0) = 64 → post ((-2)) σ))) ∧ (¬ x1 ≤ 126 → G_M_load_12 l v n post σ))))) : G_M_load_0 l v n post σ x1 := by
  refine g_iload_n d_M_load_0 1 rfl rfl ?_
  refine g_bipush d_M_load_1 (x := 32) (by decide) ?_
  refine g_icmp_lt (tgt := 12) d_M_load_3 rfl (fun hc => ?_) (fun hc => ?_)
  · have h := h.1 hc
    exact g_sub [] rfl h
  · have h := h.2 hc
    refine g_iload_n d_M_load_6 1 rfl rfl ?_
    refine g_bipush d_M_load_7 (x := 126) (by decide) ?_
    refine g_icmp_le (tgt := 14) d_M_load_9 rfl (fun hc => ?_) (fun hc => ?_)
    · have h := h.1 hc
      refine g_aload_n d_M_load_14 0 rfl rfl ?_
      refine g_getV (x := .int (σ.1 0 0)) d_M_load_15 fl_M_112 (by decide) rfl rfl rfl ?_
      refine g_bipush d_M_load_18 (x := 64) (by decide) ?_
      refine g_icmp_ne (tgt := 26) d_M_load_20 rfl (fun hc => ?_) (fun hc => ?_)
      · have h := h.1 hc
        refine g_aload_n d_M_load_26 0 rfl rfl ?_
        refine g_getV (x := .ref (v.2.2 1)) d_M_load_27 fl_M_7 (by decide) rfl rfl rfl ?_
        refine g_aload_n d_M_load_30 0 rfl rfl ?_
        refine g_getV (x := .int (σ.1 0 0)) d_M_load_31 fl_M_112 (by decide) rfl rfl rfl ?_
        refine g_iload_n d_M_load_34 1 rfl rfl ?_
        have hi1 := h.1
        have h := h.2
        refine g_iast d_M_load_35 (by decide) rfl hi1 ?_
        refine g_aload_n d_M_load_36 0 rfl rfl ?_
        refine g_dup d_M_load_37 rfl ?_
        refine g_getV (x := .int (σ.1 0 0)) d_M_load_38 fl_M_112 (by decide) rfl rfl rfl ?_
        refine g_iconst d_M_load_41 (x := 1) (by decide) ?_
        refine g_iadd d_M_load_42 ?_
        refine g_putI d_M_load_43 fp_M_112 (by decide) rfl rfl ⟨rfl, rfl⟩ ?_
        refine g_aload_n d_M_load_46 0 rfl rfl ?_
        refine g_getV (x := .int ((σ.1 0 0) + 1)) d_M_load_47 fl_M_112 (by decide) rfl rfl rfl ?_
        exact g_iret d_M_load_50 rfl h
      · have h := h.2 hc
        refine g_bipush d_M_load_23 (x := (-2)) (by decide) ?_
        exact g_iret d_M_load_25 rfl h
    · have h := h.2 hc
      exact g_sub [] rfl h
set_option maxRecDepth 20000 in
set_option maxHeartbeats 1000000 in
theorem T_M_load_12 {l : Launch} {v : gs_V} {n : Nat} {post : Int32 → gs_S → Prop} {σ : gs_S} (h : post ((-1)) σ) : G_M_load_12 l v n post σ := by
  refine g_iconst d_M_load_12 (x := (-1)) (by decide) ?_
  exact g_iret d_M_load_13 rfl h
theorem E_M_load {l : Launch} {v : gs_V} {n : Nat} {post : Int32 → gs_S → Prop} {σ : gs_S} {x1 : Int32} (h : G_M_load_0 l v n post σ x1) : gM l v lyM 33 me_M_load (n + 1) [.ref (v.2.2 0), .int x1] σ (qI v lyM 33 post) := gM_of (by decide +kernel) (Nat.le_of_ble_eq_true rfl) h
/-! LineRulesModel.next -/
theorem d_M_next_0 : decode me_M_next.2.1 0 = .ok (.aload_n 0, 1) := by decide +kernel
theorem d_M_next_1 : decode me_M_next.2.1 1 = .ok (.getfield 179, 3) := by decide +kernel
theorem d_M_next_4 : decode me_M_next.2.1 4 = .ok (.ifCond .le 24, 3) := by decide +kernel
theorem d_M_next_7 : decode me_M_next.2.1 7 = .ok (.iload_n 1, 1) := by decide +kernel
theorem d_M_next_8 : decode me_M_next.2.1 8 = .ok (.ifCond .lt 20, 3) := by decide +kernel
theorem d_M_next_11 : decode me_M_next.2.1 11 = .ok (.iload_n 1, 1) := by decide +kernel
theorem d_M_next_12 : decode me_M_next.2.1 12 = .ok (.aload_n 0, 1) := by decide +kernel
theorem d_M_next_13 : decode me_M_next.2.1 13 = .ok (.getfield 185, 3) := by decide +kernel
theorem d_M_next_16 : decode me_M_next.2.1 16 = .ok (.if_icmp .ge 12, 3) := by decide +kernel
theorem d_M_next_19 : decode me_M_next.2.1 19 = .ok (.aload_n 0, 1) := by decide +kernel
theorem d_M_next_20 : decode me_M_next.2.1 20 = .ok (.getfield 13, 3) := by decide +kernel
theorem d_M_next_23 : decode me_M_next.2.1 23 = .ok (.iload_n 1, 1) := by decide +kernel
theorem d_M_next_24 : decode me_M_next.2.1 24 = .ok (.iaload, 1) := by decide +kernel
theorem d_M_next_25 : decode me_M_next.2.1 25 = .ok (.goto 4, 3) := by decide +kernel
theorem d_M_next_28 : decode me_M_next.2.1 28 = .ok (.iconst (-1), 1) := by decide +kernel
theorem d_M_next_29 : decode me_M_next.2.1 29 = .ok (.ireturn, 1) := by decide +kernel
abbrev G_M_next_0 (l : Launch) (v : gs_V) (n : Nat) (post : Int32 → gs_S → Prop) (σ : gs_S) (x1 : Int32) : Prop := gG l v lyM 33 me_M_next n (qI v lyM 33 post) 0 [(0, .ref (v.2.2 0)), (1, .int x1)] [] σ
abbrev G_M_next_28 (l : Launch) (v : gs_V) (n : Nat) (post : Int32 → gs_S → Prop) (σ : gs_S) : Prop := gG l v lyM 33 me_M_next n (qI v lyM 33 post) 28 [] [] σ
abbrev G_M_next_29 (l : Launch) (v : gs_V) (n : Nat) (post : Int32 → gs_S → Prop) (σ : gs_S) (s0 : Int32) : Prop := gG l v lyM 33 me_M_next n (qI v lyM 33 post) 29 [] [.int s0] σ
set_option maxRecDepth 20000 in
set_option maxHeartbeats 1000000 in
theorem T_M_next_0 {l : Launch} {v : gs_V} {n : Nat} {post : Int32 → gs_S → Prop} {σ : gs_S} {x1 : Int32} (h : (((σ.1 0 2) ≤ 0 → G_M_next_28 l v n post σ) ∧ (¬ (σ.1 0 2) ≤ 0 → ((x1 < 0 → G_M_next_28 l v n post σ) ∧ (¬ x1 < 0 → (((σ.1 0 5) ≤ x1 → G_M_next_28 l v n post σ) ∧ (¬ (σ.1 0 5) ≤ x1 → vp_in x1 256 ∧ G_M_next_29 l v n post σ (σ.1 2 x1.toNatClampNeg)))))))) : G_M_next_0 l v n post σ x1 := by
  refine g_aload_n d_M_next_0 0 rfl rfl ?_
  refine g_getV (x := .int (σ.1 0 2)) d_M_next_1 fl_M_179 (by decide) rfl rfl rfl ?_
  refine g_if_le (tgt := 28) d_M_next_4 rfl (fun hc => ?_) (fun hc => ?_)
  · have h := h.1 hc
    exact g_sub [] rfl h
  · have h := h.2 hc
    refine g_iload_n d_M_next_7 1 rfl rfl ?_
    refine g_if_lt (tgt := 28) d_M_next_8 rfl (fun hc => ?_) (fun hc => ?_)
    · have h := h.1 hc
      exact g_sub [] rfl h
    · have h := h.2 hc
      refine g_iload_n d_M_next_11 1 rfl rfl ?_
      refine g_aload_n d_M_next_12 0 rfl rfl ?_
      refine g_getV (x := .int (σ.1 0 5)) d_M_next_13 fl_M_185 (by decide) rfl rfl rfl ?_
      refine g_icmp_ge (tgt := 28) d_M_next_16 rfl (fun hc => ?_) (fun hc => ?_)
      · have h := h.1 hc
        exact g_sub [] rfl h
      · have h := h.2 hc
        refine g_aload_n d_M_next_19 0 rfl rfl ?_
        refine g_getV (x := .ref (v.2.2 2)) d_M_next_20 fl_M_13 (by decide) rfl rfl rfl ?_
        refine g_iload_n d_M_next_23 1 rfl rfl ?_
        have hi1 := h.1
        have h := h.2
        refine g_iald (x := σ.1 2 x1.toNatClampNeg) d_M_next_24 (by decide) rfl hi1 rfl ?_
        refine g_goto (tgt := 29) d_M_next_25 rfl ?_
        exact g_sub [] rfl h
set_option maxRecDepth 20000 in
set_option maxHeartbeats 1000000 in
theorem T_M_next_28 {l : Launch} {v : gs_V} {n : Nat} {post : Int32 → gs_S → Prop} {σ : gs_S} (h : G_M_next_29 l v n post σ ((-1))) : G_M_next_28 l v n post σ := by
  refine g_iconst d_M_next_28 (x := (-1)) (by decide) ?_
  exact h
set_option maxRecDepth 20000 in
set_option maxHeartbeats 1000000 in
theorem T_M_next_29 {l : Launch} {v : gs_V} {n : Nat} {post : Int32 → gs_S → Prop} {σ : gs_S} {s0 : Int32} (h : post s0 σ) : G_M_next_29 l v n post σ s0 := by
  exact g_iret d_M_next_29 rfl h
theorem E_M_next {l : Launch} {v : gs_V} {n : Nat} {post : Int32 → gs_S → Prop} {σ : gs_S} {x1 : Int32} (h : G_M_next_0 l v n post σ x1) : gM l v lyM 33 me_M_next (n + 1) [.ref (v.2.2 0), .int x1] σ (qI v lyM 33 post) := gM_of (by decide +kernel) (Nat.le_of_ble_eq_true rfl) h
/-! LineRulesModel.orphan -/
theorem d_M_orphan_0 : decode me_M_orphan.2.1 0 = .ok (.aload_n 0, 1) := by decide +kernel
theorem d_M_orphan_1 : decode me_M_orphan.2.1 1 = .ok (.getfield 179, 3) := by decide +kernel
theorem d_M_orphan_4 : decode me_M_orphan.2.1 4 = .ok (.ifCond .ne 5, 3) := by decide +kernel
theorem d_M_orphan_7 : decode me_M_orphan.2.1 7 = .ok (.iconst (-1), 1) := by decide +kernel
theorem d_M_orphan_8 : decode me_M_orphan.2.1 8 = .ok (.ireturn, 1) := by decide +kernel
theorem d_M_orphan_9 : decode me_M_orphan.2.1 9 = .ok (.aload_n 0, 1) := by decide +kernel
theorem d_M_orphan_10 : decode me_M_orphan.2.1 10 = .ok (.invokevirtual 285, 3) := by decide +kernel
theorem d_M_orphan_13 : decode me_M_orphan.2.1 13 = .ok (.aload_n 0, 1) := by decide +kernel
theorem d_M_orphan_14 : decode me_M_orphan.2.1 14 = .ok (.getfield 270, 3) := by decide +kernel
theorem d_M_orphan_17 : decode me_M_orphan.2.1 17 = .ok (.ireturn, 1) := by decide +kernel
abbrev G_M_orphan_0 (l : Launch) (v : gs_V) (n : Nat) (post : Int32 → gs_S → Prop) (σ : gs_S) : Prop := gG l v lyM 33 me_M_orphan n (qI v lyM 33 post) 0 [(0, .ref (v.2.2 0))] [] σ
set_option maxRecDepth 20000 in
set_option maxHeartbeats 1000000 in
theorem T_M_orphan_0 {l : Launch} {v : gs_V} {n : Nat} {post : Int32 → gs_S → Prop} {σ : gs_S} (h : ((¬ (σ.1 0 2) = 0 → gM l v lyM 33 me_M_findOrphan n [.ref (v.2.2 0)] σ (qV v lyM 33 (fun σ1 => post (σ1.1 0 42) σ1))) ∧ ((σ.1 0 2) = 0 → post ((-1)) σ))) : G_M_orphan_0 l v n post σ := by
  refine g_aload_n d_M_orphan_0 0 rfl rfl ?_
  refine g_getV (x := .int (σ.1 0 2)) d_M_orphan_1 fl_M_179 (by decide) rfl rfl rfl ?_
  refine g_if_ne (tgt := 9) d_M_orphan_4 rfl (fun hc => ?_) (fun hc => ?_)
  · have h := h.1 hc
    refine g_aload_n d_M_orphan_9 0 rfl rfl ?_
    refine g_callVv (av := []) (rest := []) d_M_orphan_10 Y_M_findOrphan lk_M_285 (by decide) rfl rfl I_M_findOrphan rfl (Nat.le_of_ble_eq_true rfl) rfl h (fun σ1 h => ?_)
    refine g_aload_n d_M_orphan_13 0 rfl rfl ?_
    refine g_getV (x := .int (σ1.1 0 42)) d_M_orphan_14 fl_M_270 (by decide) rfl rfl rfl ?_
    exact g_iret d_M_orphan_17 rfl h
  · have h := h.2 hc
    refine g_iconst d_M_orphan_7 (x := (-1)) (by decide) ?_
    exact g_iret d_M_orphan_8 rfl h
theorem E_M_orphan {l : Launch} {v : gs_V} {n : Nat} {post : Int32 → gs_S → Prop} {σ : gs_S} (h : G_M_orphan_0 l v n post σ) : gM l v lyM 33 me_M_orphan (n + 1) [.ref (v.2.2 0)] σ (qI v lyM 33 post) := gM_of (by decide +kernel) (Nat.le_of_ble_eq_true rfl) h
/-! LineRulesModel.orphanAt -/
theorem d_M_orphanAt_0 : decode me_M_orphanAt.2.1 0 = .ok (.aload_n 0, 1) := by decide +kernel
theorem d_M_orphanAt_1 : decode me_M_orphanAt.2.1 1 = .ok (.getfield 179, 3) := by decide +kernel
theorem d_M_orphanAt_4 : decode me_M_orphanAt.2.1 4 = .ok (.ifCond .ne 5, 3) := by decide +kernel
theorem d_M_orphanAt_7 : decode me_M_orphanAt.2.1 7 = .ok (.iconst (-1), 1) := by decide +kernel
theorem d_M_orphanAt_8 : decode me_M_orphanAt.2.1 8 = .ok (.ireturn, 1) := by decide +kernel
theorem d_M_orphanAt_9 : decode me_M_orphanAt.2.1 9 = .ok (.aload_n 0, 1) := by decide +kernel
theorem d_M_orphanAt_10 : decode me_M_orphanAt.2.1 10 = .ok (.invokevirtual 285, 3) := by decide +kernel
theorem d_M_orphanAt_13 : decode me_M_orphanAt.2.1 13 = .ok (.iload_n 1, 1) := by decide +kernel
theorem d_M_orphanAt_14 : decode me_M_orphanAt.2.1 14 = .ok (.ifCond .lt 20, 3) := by decide +kernel
theorem d_M_orphanAt_17 : decode me_M_orphanAt.2.1 17 = .ok (.iload_n 1, 1) := by decide +kernel
theorem d_M_orphanAt_18 : decode me_M_orphanAt.2.1 18 = .ok (.aload_n 0, 1) := by decide +kernel
theorem d_M_orphanAt_19 : decode me_M_orphanAt.2.1 19 = .ok (.getfield 270, 3) := by decide +kernel
theorem d_M_orphanAt_22 : decode me_M_orphanAt.2.1 22 = .ok (.if_icmp .ge 12, 3) := by decide +kernel
theorem d_M_orphanAt_25 : decode me_M_orphanAt.2.1 25 = .ok (.aload_n 0, 1) := by decide +kernel
theorem d_M_orphanAt_26 : decode me_M_orphanAt.2.1 26 = .ok (.getfield 88, 3) := by decide +kernel
theorem d_M_orphanAt_29 : decode me_M_orphanAt.2.1 29 = .ok (.iload_n 1, 1) := by decide +kernel
theorem d_M_orphanAt_30 : decode me_M_orphanAt.2.1 30 = .ok (.iaload, 1) := by decide +kernel
theorem d_M_orphanAt_31 : decode me_M_orphanAt.2.1 31 = .ok (.goto 4, 3) := by decide +kernel
theorem d_M_orphanAt_34 : decode me_M_orphanAt.2.1 34 = .ok (.iconst (-1), 1) := by decide +kernel
theorem d_M_orphanAt_35 : decode me_M_orphanAt.2.1 35 = .ok (.ireturn, 1) := by decide +kernel
abbrev G_M_orphanAt_0 (l : Launch) (v : gs_V) (n : Nat) (post : Int32 → gs_S → Prop) (σ : gs_S) (x1 : Int32) : Prop := gG l v lyM 33 me_M_orphanAt n (qI v lyM 33 post) 0 [(0, .ref (v.2.2 0)), (1, .int x1)] [] σ
abbrev G_M_orphanAt_34 (l : Launch) (v : gs_V) (n : Nat) (post : Int32 → gs_S → Prop) (σ : gs_S) : Prop := gG l v lyM 33 me_M_orphanAt n (qI v lyM 33 post) 34 [] [] σ
abbrev G_M_orphanAt_35 (l : Launch) (v : gs_V) (n : Nat) (post : Int32 → gs_S → Prop) (σ : gs_S) (s0 : Int32) : Prop := gG l v lyM 33 me_M_orphanAt n (qI v lyM 33 post) 35 [] [.int s0] σ
set_option maxRecDepth 20000 in
set_option maxHeartbeats 1000000 in
theorem T_M_orphanAt_0 {l : Launch} {v : gs_V} {n : Nat} {post : Int32 → gs_S → Prop} {σ : gs_S} {x1 : Int32} (h : ((¬ (σ.1 0 2) = 0 → gM l v lyM 33 me_M_findOrphan n [.ref (v.2.2 0)] σ (qV v lyM 33 (fun σ1 => ((x1 < 0 → G_M_orphanAt_34 l v n post σ1) ∧ (¬ x1 < 0 → (((σ1.1 0 42) ≤ x1 → G_M_orphanAt_34 l v n post σ1) ∧ (¬ (σ1.1 0 42) ≤ x1 → vp_in x1 512 ∧ G_M_orphanAt_35 l v n post σ1 (σ1.1 25 x1.toNatClampNeg)))))))) ∧ ((σ.1 0 2) = 0 → post ((-1)) σ))) : G_M_orphanAt_0 l v n post σ x1 := by
  refine g_aload_n d_M_orphanAt_0 0 rfl rfl ?_
  refine g_getV (x := .int (σ.1 0 2)) d_M_orphanAt_1 fl_M_179 (by decide) rfl rfl rfl ?_
  refine g_if_ne (tgt := 9) d_M_orphanAt_4 rfl (fun hc => ?_) (fun hc => ?_)
  · have h := h.1 hc
    refine g_aload_n d_M_orphanAt_9 0 rfl rfl ?_
    refine g_callVv (av := []) (rest := []) d_M_orphanAt_10 Y_M_findOrphan lk_M_285 (by decide) rfl rfl I_M_findOrphan rfl (Nat.le_of_ble_eq_true rfl) rfl h (fun σ1 h => ?_)
    refine g_iload_n d_M_orphanAt_13 1 rfl rfl ?_
    refine g_if_lt (tgt := 34) d_M_orphanAt_14 rfl (fun hc => ?_) (fun hc => ?_)
    · have h := h.1 hc
      exact g_sub [] rfl h
    · have h := h.2 hc
      refine g_iload_n d_M_orphanAt_17 1 rfl rfl ?_
      refine g_aload_n d_M_orphanAt_18 0 rfl rfl ?_
      refine g_getV (x := .int (σ1.1 0 42)) d_M_orphanAt_19 fl_M_270 (by decide) rfl rfl rfl ?_
      refine g_icmp_ge (tgt := 34) d_M_orphanAt_22 rfl (fun hc => ?_) (fun hc => ?_)
      · have h := h.1 hc
        exact g_sub [] rfl h
      · have h := h.2 hc
        refine g_aload_n d_M_orphanAt_25 0 rfl rfl ?_
        refine g_getV (x := .ref (v.2.2 25)) d_M_orphanAt_26 fl_M_88 (by decide) rfl rfl rfl ?_
        refine g_iload_n d_M_orphanAt_29 1 rfl rfl ?_
        have hi2 := h.1
        have h := h.2
        refine g_iald (x := σ1.1 25 x1.toNatClampNeg) d_M_orphanAt_30 (by decide) rfl hi2 rfl ?_
        refine g_goto (tgt := 35) d_M_orphanAt_31 rfl ?_
        exact g_sub [] rfl h
  · have h := h.2 hc
    refine g_iconst d_M_orphanAt_7 (x := (-1)) (by decide) ?_
    exact g_iret d_M_orphanAt_8 rfl h
set_option maxRecDepth 20000 in
set_option maxHeartbeats 1000000 in
theorem T_M_orphanAt_34 {l : Launch} {v : gs_V} {n : Nat} {post : Int32 → gs_S → Prop} {σ : gs_S} (h : G_M_orphanAt_35 l v n post σ ((-1))) : G_M_orphanAt_34 l v n post σ := by
  refine g_iconst d_M_orphanAt_34 (x := (-1)) (by decide) ?_
  exact h
set_option maxRecDepth 20000 in
set_option maxHeartbeats 1000000 in
theorem T_M_orphanAt_35 {l : Launch} {v : gs_V} {n : Nat} {post : Int32 → gs_S → Prop} {σ : gs_S} {s0 : Int32} (h : post s0 σ) : G_M_orphanAt_35 l v n post σ s0 := by
  exact g_iret d_M_orphanAt_35 rfl h
theorem E_M_orphanAt {l : Launch} {v : gs_V} {n : Nat} {post : Int32 → gs_S → Prop} {σ : gs_S} {x1 : Int32} (h : G_M_orphanAt_0 l v n post σ x1) : gM l v lyM 33 me_M_orphanAt (n + 1) [.ref (v.2.2 0), .int x1] σ (qI v lyM 33 post) := gM_of (by decide +kernel) (Nat.le_of_ble_eq_true rfl) h
/-! LineRulesModel.population -/
theorem d_M_population_0 : decode me_M_population.2.1 0 = .ok (.aload_n 0, 1) := by decide +kernel
theorem d_M_population_1 : decode me_M_population.2.1 1 = .ok (.getfield 179, 3) := by decide +kernel
theorem d_M_population_4 : decode me_M_population.2.1 4 = .ok (.ifCond .eq 15, 3) := by decide +kernel
theorem d_M_population_7 : decode me_M_population.2.1 7 = .ok (.iload_n 1, 1) := by decide +kernel
theorem d_M_population_8 : decode me_M_population.2.1 8 = .ok (.ifCond .lt 11, 3) := by decide +kernel
theorem d_M_population_11 : decode me_M_population.2.1 11 = .ok (.iload_n 1, 1) := by decide +kernel
theorem d_M_population_12 : decode me_M_population.2.1 12 = .ok (.aload_n 0, 1) := by decide +kernel
theorem d_M_population_13 : decode me_M_population.2.1 13 = .ok (.getfield 179, 3) := by decide +kernel
theorem d_M_population_16 : decode me_M_population.2.1 16 = .ok (.if_icmp .lt 5, 3) := by decide +kernel
theorem d_M_population_19 : decode me_M_population.2.1 19 = .ok (.iconst (-1), 1) := by decide +kernel
theorem d_M_population_20 : decode me_M_population.2.1 20 = .ok (.ireturn, 1) := by decide +kernel
theorem d_M_population_21 : decode me_M_population.2.1 21 = .ok (.iconst 0, 1) := by decide +kernel
theorem d_M_population_22 : decode me_M_population.2.1 22 = .ok (.istore_n 2, 1) := by decide +kernel
theorem d_M_population_23 : decode me_M_population.2.1 23 = .ok (.iconst 0, 1) := by decide +kernel
theorem d_M_population_24 : decode me_M_population.2.1 24 = .ok (.istore_n 3, 1) := by decide +kernel
theorem d_M_population_25 : decode me_M_population.2.1 25 = .ok (.iload_n 3, 1) := by decide +kernel
theorem d_M_population_26 : decode me_M_population.2.1 26 = .ok (.aload_n 0, 1) := by decide +kernel
theorem d_M_population_27 : decode me_M_population.2.1 27 = .ok (.getfield 16, 3) := by decide +kernel
theorem d_M_population_30 : decode me_M_population.2.1 30 = .ok (.if_icmp .ge 27, 3) := by decide +kernel
theorem d_M_population_33 : decode me_M_population.2.1 33 = .ok (.aload_n 0, 1) := by decide +kernel
theorem d_M_population_34 : decode me_M_population.2.1 34 = .ok (.getfield 20, 3) := by decide +kernel
theorem d_M_population_37 : decode me_M_population.2.1 37 = .ok (.iload_n 3, 1) := by decide +kernel
theorem d_M_population_38 : decode me_M_population.2.1 38 = .ok (.iaload, 1) := by decide +kernel
theorem d_M_population_39 : decode me_M_population.2.1 39 = .ok (.iload_n 1, 1) := by decide +kernel
theorem d_M_population_40 : decode me_M_population.2.1 40 = .ok (.if_icmp .ne 9, 3) := by decide +kernel
theorem d_M_population_43 : decode me_M_population.2.1 43 = .ok (.iload_n 2, 1) := by decide +kernel
theorem d_M_population_44 : decode me_M_population.2.1 44 = .ok (.iconst 1, 1) := by decide +kernel
theorem d_M_population_45 : decode me_M_population.2.1 45 = .ok (.iadd, 1) := by decide +kernel
theorem d_M_population_46 : decode me_M_population.2.1 46 = .ok (.goto 4, 3) := by decide +kernel
theorem d_M_population_49 : decode me_M_population.2.1 49 = .ok (.iload_n 2, 1) := by decide +kernel
theorem d_M_population_50 : decode me_M_population.2.1 50 = .ok (.istore_n 2, 1) := by decide +kernel
theorem d_M_population_51 : decode me_M_population.2.1 51 = .ok (.iinc 3 1, 3) := by decide +kernel
theorem d_M_population_54 : decode me_M_population.2.1 54 = .ok (.goto (-29), 3) := by decide +kernel
theorem d_M_population_57 : decode me_M_population.2.1 57 = .ok (.iload_n 2, 1) := by decide +kernel
theorem d_M_population_58 : decode me_M_population.2.1 58 = .ok (.ireturn, 1) := by decide +kernel
abbrev G_M_population_0 (l : Launch) (v : gs_V) (n : Nat) (post : Int32 → gs_S → Prop) (σ : gs_S) (x1 : Int32) : Prop := gG l v lyM 33 me_M_population n (qI v lyM 33 post) 0 [(0, .ref (v.2.2 0)), (1, .int x1)] [] σ
abbrev G_M_population_19 (l : Launch) (v : gs_V) (n : Nat) (post : Int32 → gs_S → Prop) (σ : gs_S) : Prop := gG l v lyM 33 me_M_population n (qI v lyM 33 post) 19 [] [] σ
abbrev G_M_population_25 (l : Launch) (v : gs_V) (n : Nat) (post : Int32 → gs_S → Prop) (σ : gs_S) (x1 : Int32) (x2 : Int32) (x3 : Int32) : Prop := gG l v lyM 33 me_M_population n (qI v lyM 33 post) 25 [(0, .ref (v.2.2 0)), (1, .int x1), (2, .int x2), (3, .int x3)] [] σ
abbrev G_M_population_50 (l : Launch) (v : gs_V) (n : Nat) (post : Int32 → gs_S → Prop) (σ : gs_S) (x1 : Int32) (x3 : Int32) (s0 : Int32) : Prop := gG l v lyM 33 me_M_population n (qI v lyM 33 post) 50 [(0, .ref (v.2.2 0)), (1, .int x1), (3, .int x3)] [.int s0] σ
set_option maxRecDepth 20000 in
set_option maxHeartbeats 1000000 in
theorem T_M_population_0 {l : Launch} {v : gs_V} {n : Nat} {post : Int32 → gs_S → Prop} {σ : gs_S} {x1 : Int32} (h : (((σ.1 0 2) = 0 → G_M_population_19 l v n post σ) ∧ (¬ (σ.1 0 2) = 0 → ((x1 < 0 → G_M_population_19 l v n post σ) ∧ (¬ x1 < 0 → ((x1 < (σ.1 0 2) → G_M_population_25 l v n post σ x1 0 0) ∧ (¬ x1 < (σ.1 0 2) → G_M_population_19 l v n post σ))))))) : G_M_population_0 l v n post σ x1 := by
  refine g_aload_n d_M_population_0 0 rfl rfl ?_
  refine g_getV (x := .int (σ.1 0 2)) d_M_population_1 fl_M_179 (by decide) rfl rfl rfl ?_
  refine g_if_eq (tgt := 19) d_M_population_4 rfl (fun hc => ?_) (fun hc => ?_)
  · have h := h.1 hc
    exact g_sub [] rfl h
  · have h := h.2 hc
    refine g_iload_n d_M_population_7 1 rfl rfl ?_
    refine g_if_lt (tgt := 19) d_M_population_8 rfl (fun hc => ?_) (fun hc => ?_)
    · have h := h.1 hc
      exact g_sub [] rfl h
    · have h := h.2 hc
      refine g_iload_n d_M_population_11 1 rfl rfl ?_
      refine g_aload_n d_M_population_12 0 rfl rfl ?_
      refine g_getV (x := .int (σ.1 0 2)) d_M_population_13 fl_M_179 (by decide) rfl rfl rfl ?_
      refine g_icmp_lt (tgt := 21) d_M_population_16 rfl (fun hc => ?_) (fun hc => ?_)
      · have h := h.1 hc
        refine g_iconst d_M_population_21 (x := 0) (by decide) ?_
        refine g_istore_n (L' := [(2, .int 0), (0, .ref (v.2.2 0)), (1, .int x1)]) d_M_population_22 rfl (by decide) rfl ?_
        refine g_iconst d_M_population_23 (x := 0) (by decide) ?_
        refine g_istore_n (L' := [(3, .int 0), (2, .int 0), (0, .ref (v.2.2 0)), (1, .int x1)]) d_M_population_24 rfl (by decide) rfl ?_
        exact g_sub [2, 3, 1, 0] rfl h
      · have h := h.2 hc
        exact g_sub [] rfl h
set_option maxRecDepth 20000 in
set_option maxHeartbeats 1000000 in
theorem T_M_population_19 {l : Launch} {v : gs_V} {n : Nat} {post : Int32 → gs_S → Prop} {σ : gs_S} (h : post ((-1)) σ) : G_M_population_19 l v n post σ := by
  refine g_iconst d_M_population_19 (x := (-1)) (by decide) ?_
  exact g_iret d_M_population_20 rfl h
set_option maxRecDepth 20000 in
set_option maxHeartbeats 1000000 in
theorem T_M_population_25 {l : Launch} {v : gs_V} {n : Nat} {post : Int32 → gs_S → Prop} {σ : gs_S} {x1 : Int32} {x2 : Int32} {x3 : Int32} (h : (((σ.1 0 7) ≤ x3 → post x2 σ) ∧ (¬ (σ.1 0 7) ≤ x3 → vp_in x3 64 ∧ ((¬ (σ.1 3 x3.toNatClampNeg) = x1 → G_M_population_50 l v n post σ x1 x3 x2) ∧ ((σ.1 3 x3.toNatClampNeg) = x1 → G_M_population_50 l v n post σ x1 x3 (x2 + 1)))))) : G_M_population_25 l v n post σ x1 x2 x3 := by
  refine g_iload_n d_M_population_25 3 rfl rfl ?_
  refine g_aload_n d_M_population_26 0 rfl rfl ?_
  refine g_getV (x := .int (σ.1 0 7)) d_M_population_27 fl_M_16 (by decide) rfl rfl rfl ?_
  refine g_icmp_ge (tgt := 57) d_M_population_30 rfl (fun hc => ?_) (fun hc => ?_)
  · have h := h.1 hc
    refine g_iload_n d_M_population_57 2 rfl rfl ?_
    exact g_iret d_M_population_58 rfl h
  · have h := h.2 hc
    refine g_aload_n d_M_population_33 0 rfl rfl ?_
    refine g_getV (x := .ref (v.2.2 3)) d_M_population_34 fl_M_20 (by decide) rfl rfl rfl ?_
    refine g_iload_n d_M_population_37 3 rfl rfl ?_
    have hi1 := h.1
    have h := h.2
    refine g_iald (x := σ.1 3 x3.toNatClampNeg) d_M_population_38 (by decide) rfl hi1 rfl ?_
    refine g_iload_n d_M_population_39 1 rfl rfl ?_
    refine g_icmp_ne (tgt := 49) d_M_population_40 rfl (fun hc => ?_) (fun hc => ?_)
    · have h := h.1 hc
      refine g_iload_n d_M_population_49 2 rfl rfl ?_
      exact g_sub [0, 1, 3] rfl h
    · have h := h.2 hc
      refine g_iload_n d_M_population_43 2 rfl rfl ?_
      refine g_iconst d_M_population_44 (x := 1) (by decide) ?_
      refine g_iadd d_M_population_45 ?_
      refine g_goto (tgt := 50) d_M_population_46 rfl ?_
      exact g_sub [0, 1, 3] rfl h
set_option maxRecDepth 20000 in
set_option maxHeartbeats 1000000 in
theorem T_M_population_50 {l : Launch} {v : gs_V} {n : Nat} {post : Int32 → gs_S → Prop} {σ : gs_S} {x1 : Int32} {x3 : Int32} {s0 : Int32} (h : G_M_population_25 l v n post σ x1 s0 (x3 + 1)) : G_M_population_50 l v n post σ x1 x3 s0 := by
  refine g_istore_n (L' := [(2, .int s0), (0, .ref (v.2.2 0)), (1, .int x1), (3, .int x3)]) d_M_population_50 rfl (by decide) rfl ?_
  refine g_iinc (L' := [(3, .int (x3 + 1)), (2, .int s0), (0, .ref (v.2.2 0)), (1, .int x1)]) d_M_population_51 3 rfl (by rfl) (by decide) rfl ?_
  refine g_goto (tgt := 25) d_M_population_54 rfl ?_
  exact g_sub [2, 3, 1, 0] rfl h
theorem E_M_population {l : Launch} {v : gs_V} {n : Nat} {post : Int32 → gs_S → Prop} {σ : gs_S} {x1 : Int32} (h : G_M_population_0 l v n post σ x1) : gM l v lyM 33 me_M_population (n + 1) [.ref (v.2.2 0), .int x1] σ (qI v lyM 33 post) := gM_of (by decide +kernel) (Nat.le_of_ble_eq_true rfl) h
/-! LineRulesModel.readAll -/
theorem d_M_readAll_0 : decode me_M_readAll.2.1 0 = .ok (.aload_n 0, 1) := by decide +kernel
theorem d_M_readAll_1 : decode me_M_readAll.2.1 1 = .ok (.getfield 112, 3) := by decide +kernel
theorem d_M_readAll_4 : decode me_M_readAll.2.1 4 = .ok (.iconst 1, 1) := by decide +kernel
theorem d_M_readAll_5 : decode me_M_readAll.2.1 5 = .ok (.if_icmp .lt 25, 3) := by decide +kernel
theorem d_M_readAll_8 : decode me_M_readAll.2.1 8 = .ok (.aload_n 0, 1) := by decide +kernel
theorem d_M_readAll_9 : decode me_M_readAll.2.1 9 = .ok (.getfield 7, 3) := by decide +kernel
theorem d_M_readAll_12 : decode me_M_readAll.2.1 12 = .ok (.iconst 0, 1) := by decide +kernel
theorem d_M_readAll_13 : decode me_M_readAll.2.1 13 = .ok (.iaload, 1) := by decide +kernel
theorem d_M_readAll_14 : decode me_M_readAll.2.1 14 = .ok (.bipush 50, 2) := by decide +kernel
theorem d_M_readAll_16 : decode me_M_readAll.2.1 16 = .ok (.if_icmp .lt 14, 3) := by decide +kernel
theorem d_M_readAll_19 : decode me_M_readAll.2.1 19 = .ok (.aload_n 0, 1) := by decide +kernel
theorem d_M_readAll_20 : decode me_M_readAll.2.1 20 = .ok (.getfield 7, 3) := by decide +kernel
theorem d_M_readAll_23 : decode me_M_readAll.2.1 23 = .ok (.iconst 0, 1) := by decide +kernel
theorem d_M_readAll_24 : decode me_M_readAll.2.1 24 = .ok (.iaload, 1) := by decide +kernel
theorem d_M_readAll_25 : decode me_M_readAll.2.1 25 = .ok (.bipush 52, 2) := by decide +kernel
theorem d_M_readAll_27 : decode me_M_readAll.2.1 27 = .ok (.if_icmp .le 5, 3) := by decide +kernel
theorem d_M_readAll_30 : decode me_M_readAll.2.1 30 = .ok (.iconst 0, 1) := by decide +kernel
theorem d_M_readAll_31 : decode me_M_readAll.2.1 31 = .ok (.ireturn, 1) := by decide +kernel
theorem d_M_readAll_32 : decode me_M_readAll.2.1 32 = .ok (.aload_n 0, 1) := by decide +kernel
theorem d_M_readAll_33 : decode me_M_readAll.2.1 33 = .ok (.getfield 112, 3) := by decide +kernel
theorem d_M_readAll_36 : decode me_M_readAll.2.1 36 = .ok (.iconst 2, 1) := by decide +kernel
theorem d_M_readAll_37 : decode me_M_readAll.2.1 37 = .ok (.if_icmp .lt 25, 3) := by decide +kernel
theorem d_M_readAll_40 : decode me_M_readAll.2.1 40 = .ok (.aload_n 0, 1) := by decide +kernel
theorem d_M_readAll_41 : decode me_M_readAll.2.1 41 = .ok (.getfield 7, 3) := by decide +kernel
theorem d_M_readAll_44 : decode me_M_readAll.2.1 44 = .ok (.iconst 1, 1) := by decide +kernel
theorem d_M_readAll_45 : decode me_M_readAll.2.1 45 = .ok (.iaload, 1) := by decide +kernel
theorem d_M_readAll_46 : decode me_M_readAll.2.1 46 = .ok (.bipush 49, 2) := by decide +kernel
theorem d_M_readAll_48 : decode me_M_readAll.2.1 48 = .ok (.if_icmp .lt 14, 3) := by decide +kernel
theorem d_M_readAll_51 : decode me_M_readAll.2.1 51 = .ok (.aload_n 0, 1) := by decide +kernel
theorem d_M_readAll_52 : decode me_M_readAll.2.1 52 = .ok (.getfield 7, 3) := by decide +kernel
theorem d_M_readAll_55 : decode me_M_readAll.2.1 55 = .ok (.iconst 1, 1) := by decide +kernel
theorem d_M_readAll_56 : decode me_M_readAll.2.1 56 = .ok (.iaload, 1) := by decide +kernel
theorem d_M_readAll_57 : decode me_M_readAll.2.1 57 = .ok (.bipush 52, 2) := by decide +kernel
theorem d_M_readAll_59 : decode me_M_readAll.2.1 59 = .ok (.if_icmp .le 5, 3) := by decide +kernel
theorem d_M_readAll_62 : decode me_M_readAll.2.1 62 = .ok (.iconst 1, 1) := by decide +kernel
theorem d_M_readAll_63 : decode me_M_readAll.2.1 63 = .ok (.ireturn, 1) := by decide +kernel
theorem d_M_readAll_64 : decode me_M_readAll.2.1 64 = .ok (.aload_n 0, 1) := by decide +kernel
theorem d_M_readAll_65 : decode me_M_readAll.2.1 65 = .ok (.aload_n 0, 1) := by decide +kernel
theorem d_M_readAll_66 : decode me_M_readAll.2.1 66 = .ok (.getfield 7, 3) := by decide +kernel
theorem d_M_readAll_69 : decode me_M_readAll.2.1 69 = .ok (.iconst 0, 1) := by decide +kernel
theorem d_M_readAll_70 : decode me_M_readAll.2.1 70 = .ok (.iaload, 1) := by decide +kernel
theorem d_M_readAll_71 : decode me_M_readAll.2.1 71 = .ok (.bipush 48, 2) := by decide +kernel
theorem d_M_readAll_73 : decode me_M_readAll.2.1 73 = .ok (.isub, 1) := by decide +kernel
theorem d_M_readAll_74 : decode me_M_readAll.2.1 74 = .ok (.putfield 122, 3) := by decide +kernel
theorem d_M_readAll_77 : decode me_M_readAll.2.1 77 = .ok (.aload_n 0, 1) := by decide +kernel
theorem d_M_readAll_78 : decode me_M_readAll.2.1 78 = .ok (.aload_n 0, 1) := by decide +kernel
theorem d_M_readAll_79 : decode me_M_readAll.2.1 79 = .ok (.getfield 7, 3) := by decide +kernel
theorem d_M_readAll_82 : decode me_M_readAll.2.1 82 = .ok (.iconst 1, 1) := by decide +kernel
theorem d_M_readAll_83 : decode me_M_readAll.2.1 83 = .ok (.iaload, 1) := by decide +kernel
theorem d_M_readAll_84 : decode me_M_readAll.2.1 84 = .ok (.bipush 48, 2) := by decide +kernel
theorem d_M_readAll_86 : decode me_M_readAll.2.1 86 = .ok (.isub, 1) := by decide +kernel
theorem d_M_readAll_87 : decode me_M_readAll.2.1 87 = .ok (.putfield 144, 3) := by decide +kernel
theorem d_M_readAll_90 : decode me_M_readAll.2.1 90 = .ok (.aload_n 0, 1) := by decide +kernel
theorem d_M_readAll_91 : decode me_M_readAll.2.1 91 = .ok (.getfield 112, 3) := by decide +kernel
theorem d_M_readAll_94 : decode me_M_readAll.2.1 94 = .ok (.iconst 3, 1) := by decide +kernel
theorem d_M_readAll_95 : decode me_M_readAll.2.1 95 = .ok (.if_icmp .ge 7, 3) := by decide +kernel
theorem d_M_readAll_98 : decode me_M_readAll.2.1 98 = .ok (.iconst 0, 1) := by decide +kernel
theorem d_M_readAll_99 : decode me_M_readAll.2.1 99 = .ok (.goto 9, 3) := by decide +kernel
theorem d_M_readAll_102 : decode me_M_readAll.2.1 102 = .ok (.aload_n 0, 1) := by decide +kernel
theorem d_M_readAll_103 : decode me_M_readAll.2.1 103 = .ok (.getfield 7, 3) := by decide +kernel
theorem d_M_readAll_106 : decode me_M_readAll.2.1 106 = .ok (.iconst 2, 1) := by decide +kernel
theorem d_M_readAll_107 : decode me_M_readAll.2.1 107 = .ok (.iaload, 1) := by decide +kernel
theorem d_M_readAll_108 : decode me_M_readAll.2.1 108 = .ok (.istore_n 1, 1) := by decide +kernel
theorem d_M_readAll_109 : decode me_M_readAll.2.1 109 = .ok (.iload_n 1, 1) := by decide +kernel
theorem d_M_readAll_110 : decode me_M_readAll.2.1 110 = .ok (.bipush 84, 2) := by decide +kernel
theorem d_M_readAll_112 : decode me_M_readAll.2.1 112 = .ok (.if_icmp .ne 19, 3) := by decide +kernel
theorem d_M_readAll_115 : decode me_M_readAll.2.1 115 = .ok (.aload_n 0, 1) := by decide +kernel
theorem d_M_readAll_116 : decode me_M_readAll.2.1 116 = .ok (.aload_n 0, 1) := by decide +kernel
theorem d_M_readAll_117 : decode me_M_readAll.2.1 117 = .ok (.getfield 122, 3) := by decide +kernel
theorem d_M_readAll_120 : decode me_M_readAll.2.1 120 = .ok (.aload_n 0, 1) := by decide +kernel
theorem d_M_readAll_121 : decode me_M_readAll.2.1 121 = .ok (.getfield 144, 3) := by decide +kernel
theorem d_M_readAll_124 : decode me_M_readAll.2.1 124 = .ok (.invokestatic 147, 3) := by decide +kernel
theorem d_M_readAll_127 : decode me_M_readAll.2.1 127 = .ok (.invokevirtual 169, 3) := by decide +kernel
theorem d_M_readAll_130 : decode me_M_readAll.2.1 130 = .ok (.ireturn, 1) := by decide +kernel
theorem d_M_readAll_131 : decode me_M_readAll.2.1 131 = .ok (.iload_n 1, 1) := by decide +kernel
theorem d_M_readAll_132 : decode me_M_readAll.2.1 132 = .ok (.bipush 83, 2) := by decide +kernel
theorem d_M_readAll_134 : decode me_M_readAll.2.1 134 = .ok (.if_icmp .ne 21, 3) := by decide +kernel
theorem d_M_readAll_137 : decode me_M_readAll.2.1 137 = .ok (.aload_n 0, 1) := by decide +kernel
theorem d_M_readAll_138 : decode me_M_readAll.2.1 138 = .ok (.aload_n 0, 1) := by decide +kernel
theorem d_M_readAll_139 : decode me_M_readAll.2.1 139 = .ok (.getfield 122, 3) := by decide +kernel
theorem d_M_readAll_142 : decode me_M_readAll.2.1 142 = .ok (.iconst 1, 1) := by decide +kernel
theorem d_M_readAll_143 : decode me_M_readAll.2.1 143 = .ok (.isub, 1) := by decide +kernel
theorem d_M_readAll_144 : decode me_M_readAll.2.1 144 = .ok (.aload_n 0, 1) := by decide +kernel
theorem d_M_readAll_145 : decode me_M_readAll.2.1 145 = .ok (.getfield 144, 3) := by decide +kernel
theorem d_M_readAll_148 : decode me_M_readAll.2.1 148 = .ok (.imul, 1) := by decide +kernel
theorem d_M_readAll_149 : decode me_M_readAll.2.1 149 = .ok (.iconst 1, 1) := by decide +kernel
theorem d_M_readAll_150 : decode me_M_readAll.2.1 150 = .ok (.iadd, 1) := by decide +kernel
theorem d_M_readAll_151 : decode me_M_readAll.2.1 151 = .ok (.invokevirtual 169, 3) := by decide +kernel
theorem d_M_readAll_154 : decode me_M_readAll.2.1 154 = .ok (.ireturn, 1) := by decide +kernel
theorem d_M_readAll_155 : decode me_M_readAll.2.1 155 = .ok (.iload_n 1, 1) := by decide +kernel
theorem d_M_readAll_156 : decode me_M_readAll.2.1 156 = .ok (.bipush 69, 2) := by decide +kernel
theorem d_M_readAll_158 : decode me_M_readAll.2.1 158 = .ok (.if_icmp .ne 11, 3) := by decide +kernel
theorem d_M_readAll_161 : decode me_M_readAll.2.1 161 = .ok (.aload_n 0, 1) := by decide +kernel
theorem d_M_readAll_162 : decode me_M_readAll.2.1 162 = .ok (.iconst 0, 1) := by decide +kernel
theorem d_M_readAll_163 : decode me_M_readAll.2.1 163 = .ok (.invokevirtual 173, 3) := by decide +kernel
theorem d_M_readAll_166 : decode me_M_readAll.2.1 166 = .ok (.goto 4, 3) := by decide +kernel
theorem d_M_readAll_169 : decode me_M_readAll.2.1 169 = .ok (.iconst 0, 1) := by decide +kernel
theorem d_M_readAll_170 : decode me_M_readAll.2.1 170 = .ok (.istore_n 2, 1) := by decide +kernel
theorem d_M_readAll_171 : decode me_M_readAll.2.1 171 = .ok (.iload_n 1, 1) := by decide +kernel
theorem d_M_readAll_172 : decode me_M_readAll.2.1 172 = .ok (.bipush 69, 2) := by decide +kernel
theorem d_M_readAll_174 : decode me_M_readAll.2.1 174 = .ok (.if_icmp .ne 10, 3) := by decide +kernel
theorem d_M_readAll_177 : decode me_M_readAll.2.1 177 = .ok (.aload_n 0, 1) := by decide +kernel
theorem d_M_readAll_178 : decode me_M_readAll.2.1 178 = .ok (.getfield 158, 3) := by decide +kernel
theorem d_M_readAll_181 : decode me_M_readAll.2.1 181 = .ok (.goto 4, 3) := by decide +kernel
theorem d_M_readAll_184 : decode me_M_readAll.2.1 184 = .ok (.iconst 2, 1) := by decide +kernel
theorem d_M_readAll_185 : decode me_M_readAll.2.1 185 = .ok (.ireturn, 1) := by decide +kernel
abbrev G_M_readAll_0 (l : Launch) (v : gs_V) (n : Nat) (post : Int32 → gs_S → Prop) (σ : gs_S) : Prop := gG l v lyM 33 me_M_readAll n (qI v lyM 33 post) 0 [(0, .ref (v.2.2 0))] [] σ
abbrev G_M_readAll_30 (l : Launch) (v : gs_V) (n : Nat) (post : Int32 → gs_S → Prop) (σ : gs_S) : Prop := gG l v lyM 33 me_M_readAll n (qI v lyM 33 post) 30 [] [] σ
abbrev G_M_readAll_62 (l : Launch) (v : gs_V) (n : Nat) (post : Int32 → gs_S → Prop) (σ : gs_S) : Prop := gG l v lyM 33 me_M_readAll n (qI v lyM 33 post) 62 [] [] σ
abbrev G_M_readAll_108 (l : Launch) (v : gs_V) (n : Nat) (post : Int32 → gs_S → Prop) (σ : gs_S) (s0 : Int32) : Prop := gG l v lyM 33 me_M_readAll n (qI v lyM 33 post) 108 [(0, .ref (v.2.2 0))] [.int s0] σ
abbrev G_M_readAll_170 (l : Launch) (v : gs_V) (n : Nat) (post : Int32 → gs_S → Prop) (σ : gs_S) (x1 : Int32) (s0 : Int32) : Prop := gG l v lyM 33 me_M_readAll n (qI v lyM 33 post) 170 [(0, .ref (v.2.2 0)), (1, .int x1)] [.int s0] σ
abbrev G_M_readAll_185 (l : Launch) (v : gs_V) (n : Nat) (post : Int32 → gs_S → Prop) (σ : gs_S) (s0 : Int32) : Prop := gG l v lyM 33 me_M_readAll n (qI v lyM 33 post) 185 [] [.int s0] σ
set_option maxRecDepth 20000 in
set_option maxHeartbeats 1000000 in
theorem T_M_readAll_0 {l : Launch} {v : gs_V} {n : Nat} {post : Int32 → gs_S → Prop} {σ : gs_S} (h : (((σ.1 0 0) < 1 → G_M_readAll_30 l v n post σ) ∧ (¬ (σ.1 0 0) < 1 → (((σ.1 1 0) < 50 → G_M_readAll_30 l v n post σ) ∧ (¬ (σ.1 1 0) < 50 → (((σ.1 1 0) ≤ 52 → (((σ.1 0 0) < 2 → G_M_readAll_62 l v n post σ) ∧ (¬ (σ.1 0 0) < 2 → (((σ.1 1 1) < 49 → G_M_readAll_62 l v n post σ) ∧ (¬ (σ.1 1 1) < 49 → (((σ.1 1 1) ≤ 52 → ((3 ≤ (σ.1 0 0) → G_M_readAll_108 l v n post (gs_pI (gs_pI σ 0 10 ((σ.1 1 0) - 48)) 0 11 ((σ.1 1 1) - 48)) (σ.1 1 2)) ∧ (¬ 3 ≤ (σ.1 0 0) → G_M_readAll_108 l v n post (gs_pI (gs_pI σ 0 10 ((σ.1 1 0) - 48)) 0 11 ((σ.1 1 1) - 48)) 0))) ∧ (¬ (σ.1 1 1) ≤ 52 → G_M_readAll_62 l v n post σ))))))) ∧ (¬ (σ.1 1 0) ≤ 52 → G_M_readAll_30 l v n post σ))))))) : G_M_readAll_0 l v n post σ := by
  refine g_aload_n d_M_readAll_0 0 rfl rfl ?_
  refine g_getV (x := .int (σ.1 0 0)) d_M_readAll_1 fl_M_112 (by decide) rfl rfl rfl ?_
  refine g_iconst d_M_readAll_4 (x := 1) (by decide) ?_
  refine g_icmp_lt (tgt := 30) d_M_readAll_5 rfl (fun hc => ?_) (fun hc => ?_)
  · have h := h.1 hc
    exact g_sub [] rfl h
  · have h := h.2 hc
    refine g_aload_n d_M_readAll_8 0 rfl rfl ?_
    refine g_getV (x := .ref (v.2.2 1)) d_M_readAll_9 fl_M_7 (by decide) rfl rfl rfl ?_
    refine g_iconst d_M_readAll_12 (x := 0) (by decide) ?_
    refine g_iald (x := σ.1 1 0) d_M_readAll_13 (by decide) rfl (g_lit (k := 0) (by decide) (by decide)) rfl ?_
    refine g_bipush d_M_readAll_14 (x := 50) (by decide) ?_
    refine g_icmp_lt (tgt := 30) d_M_readAll_16 rfl (fun hc => ?_) (fun hc => ?_)
    · have h := h.1 hc
      exact g_sub [] rfl h
    · have h := h.2 hc
      refine g_aload_n d_M_readAll_19 0 rfl rfl ?_
      refine g_getV (x := .ref (v.2.2 1)) d_M_readAll_20 fl_M_7 (by decide) rfl rfl rfl ?_
      refine g_iconst d_M_readAll_23 (x := 0) (by decide) ?_
      refine g_iald (x := σ.1 1 0) d_M_readAll_24 (by decide) rfl (g_lit (k := 0) (by decide) (by decide)) rfl ?_
      refine g_bipush d_M_readAll_25 (x := 52) (by decide) ?_
      refine g_icmp_le (tgt := 32) d_M_readAll_27 rfl (fun hc => ?_) (fun hc => ?_)
      · have h := h.1 hc
        refine g_aload_n d_M_readAll_32 0 rfl rfl ?_
        refine g_getV (x := .int (σ.1 0 0)) d_M_readAll_33 fl_M_112 (by decide) rfl rfl rfl ?_
        refine g_iconst d_M_readAll_36 (x := 2) (by decide) ?_
        refine g_icmp_lt (tgt := 62) d_M_readAll_37 rfl (fun hc => ?_) (fun hc => ?_)
        · have h := h.1 hc
          exact g_sub [] rfl h
        · have h := h.2 hc
          refine g_aload_n d_M_readAll_40 0 rfl rfl ?_
          refine g_getV (x := .ref (v.2.2 1)) d_M_readAll_41 fl_M_7 (by decide) rfl rfl rfl ?_
          refine g_iconst d_M_readAll_44 (x := 1) (by decide) ?_
          refine g_iald (x := σ.1 1 1) d_M_readAll_45 (by decide) rfl (g_lit (k := 1) (by decide) (by decide)) rfl ?_
          refine g_bipush d_M_readAll_46 (x := 49) (by decide) ?_
          refine g_icmp_lt (tgt := 62) d_M_readAll_48 rfl (fun hc => ?_) (fun hc => ?_)
          · have h := h.1 hc
            exact g_sub [] rfl h
          · have h := h.2 hc
            refine g_aload_n d_M_readAll_51 0 rfl rfl ?_
            refine g_getV (x := .ref (v.2.2 1)) d_M_readAll_52 fl_M_7 (by decide) rfl rfl rfl ?_
            refine g_iconst d_M_readAll_55 (x := 1) (by decide) ?_
            refine g_iald (x := σ.1 1 1) d_M_readAll_56 (by decide) rfl (g_lit (k := 1) (by decide) (by decide)) rfl ?_
            refine g_bipush d_M_readAll_57 (x := 52) (by decide) ?_
            refine g_icmp_le (tgt := 64) d_M_readAll_59 rfl (fun hc => ?_) (fun hc => ?_)
            · have h := h.1 hc
              refine g_aload_n d_M_readAll_64 0 rfl rfl ?_
              refine g_aload_n d_M_readAll_65 0 rfl rfl ?_
              refine g_getV (x := .ref (v.2.2 1)) d_M_readAll_66 fl_M_7 (by decide) rfl rfl rfl ?_
              refine g_iconst d_M_readAll_69 (x := 0) (by decide) ?_
              refine g_iald (x := σ.1 1 0) d_M_readAll_70 (by decide) rfl (g_lit (k := 0) (by decide) (by decide)) rfl ?_
              refine g_bipush d_M_readAll_71 (x := 48) (by decide) ?_
              refine g_isub d_M_readAll_73 ?_
              refine g_putI d_M_readAll_74 fp_M_122 (by decide) rfl rfl ⟨rfl, rfl⟩ ?_
              refine g_aload_n d_M_readAll_77 0 rfl rfl ?_
              refine g_aload_n d_M_readAll_78 0 rfl rfl ?_
              refine g_getV (x := .ref (v.2.2 1)) d_M_readAll_79 fl_M_7 (by decide) rfl rfl rfl ?_
              refine g_iconst d_M_readAll_82 (x := 1) (by decide) ?_
              refine g_iald (x := σ.1 1 1) d_M_readAll_83 (by decide) rfl (g_lit (k := 1) (by decide) (by decide)) rfl ?_
              refine g_bipush d_M_readAll_84 (x := 48) (by decide) ?_
              refine g_isub d_M_readAll_86 ?_
              refine g_putI d_M_readAll_87 fp_M_144 (by decide) rfl rfl ⟨rfl, rfl⟩ ?_
              refine g_aload_n d_M_readAll_90 0 rfl rfl ?_
              refine g_getV (x := .int (σ.1 0 0)) d_M_readAll_91 fl_M_112 (by decide) rfl rfl rfl ?_
              refine g_iconst d_M_readAll_94 (x := 3) (by decide) ?_
              refine g_icmp_ge (tgt := 102) d_M_readAll_95 rfl (fun hc => ?_) (fun hc => ?_)
              · have h := h.1 hc
                refine g_aload_n d_M_readAll_102 0 rfl rfl ?_
                refine g_getV (x := .ref (v.2.2 1)) d_M_readAll_103 fl_M_7 (by decide) rfl rfl rfl ?_
                refine g_iconst d_M_readAll_106 (x := 2) (by decide) ?_
                refine g_iald (x := σ.1 1 2) d_M_readAll_107 (by decide) rfl (g_lit (k := 2) (by decide) (by decide)) rfl ?_
                exact h
              · have h := h.2 hc
                refine g_iconst d_M_readAll_98 (x := 0) (by decide) ?_
                refine g_goto (tgt := 108) d_M_readAll_99 rfl ?_
                exact h
            · have h := h.2 hc
              exact g_sub [] rfl h
      · have h := h.2 hc
        exact g_sub [] rfl h
set_option maxRecDepth 20000 in
set_option maxHeartbeats 1000000 in
theorem T_M_readAll_30 {l : Launch} {v : gs_V} {n : Nat} {post : Int32 → gs_S → Prop} {σ : gs_S} (h : post 0 σ) : G_M_readAll_30 l v n post σ := by
  refine g_iconst d_M_readAll_30 (x := 0) (by decide) ?_
  exact g_iret d_M_readAll_31 rfl h
set_option maxRecDepth 20000 in
set_option maxHeartbeats 1000000 in
theorem T_M_readAll_62 {l : Launch} {v : gs_V} {n : Nat} {post : Int32 → gs_S → Prop} {σ : gs_S} (h : post 1 σ) : G_M_readAll_62 l v n post σ := by
  refine g_iconst d_M_readAll_62 (x := 1) (by decide) ?_
  exact g_iret d_M_readAll_63 rfl h
set_option maxRecDepth 20000 in
set_option maxHeartbeats 1000000 in
theorem T_M_readAll_108 {l : Launch} {v : gs_V} {n : Nat} {post : Int32 → gs_S → Prop} {σ : gs_S} {s0 : Int32} (h : ((¬ s0 = 84 → ((¬ s0 = 83 → ((¬ s0 = 69 → G_M_readAll_170 l v n post σ s0 0) ∧ (s0 = 69 → gM l v lyM 33 me_M_work n [.ref (v.2.2 0), .int 0] σ (qI v lyM 33 (fun r1 σ1 => G_M_readAll_170 l v n post σ1 s0 r1))))) ∧ (s0 = 83 → gM l v lyM 33 me_M_readRow n [.ref (v.2.2 0), .int ((((σ.1 0 10) - 1) * (σ.1 0 11)) + 1)] σ (qI v lyM 33 (fun r2 σ2 => post r2 σ2))))) ∧ (s0 = 84 → gM l v lyM 33 me_M_powerOf n [.int (σ.1 0 10), .int (σ.1 0 11)] σ (qI v lyM 33 (fun r3 σ3 => gM l v lyM 33 me_M_readRow n [.ref (v.2.2 0), .int r3] σ3 (qI v lyM 33 (fun r4 σ4 => post r4 σ4))))))) : G_M_readAll_108 l v n post σ s0 := by
  refine g_istore_n (L' := [(1, .int s0), (0, .ref (v.2.2 0))]) d_M_readAll_108 rfl (by decide) rfl ?_
  refine g_iload_n d_M_readAll_109 0 rfl rfl ?_
  refine g_bipush d_M_readAll_110 (x := 84) (by decide) ?_
  refine g_icmp_ne (tgt := 131) d_M_readAll_112 rfl (fun hc => ?_) (fun hc => ?_)
  · have h := h.1 hc
    refine g_iload_n d_M_readAll_131 0 rfl rfl ?_
    refine g_bipush d_M_readAll_132 (x := 83) (by decide) ?_
    refine g_icmp_ne (tgt := 155) d_M_readAll_134 rfl (fun hc => ?_) (fun hc => ?_)
    · have h := h.1 hc
      refine g_iload_n d_M_readAll_155 0 rfl rfl ?_
      refine g_bipush d_M_readAll_156 (x := 69) (by decide) ?_
      refine g_icmp_ne (tgt := 169) d_M_readAll_158 rfl (fun hc => ?_) (fun hc => ?_)
      · have h := h.1 hc
        refine g_iconst d_M_readAll_169 (x := 0) (by decide) ?_
        exact g_sub [1, 0] rfl h
      · have h := h.2 hc
        refine g_aload_n d_M_readAll_161 1 rfl rfl ?_
        refine g_iconst d_M_readAll_162 (x := 0) (by decide) ?_
        refine g_callVi (av := [.int 0]) (rest := []) d_M_readAll_163 Y_M_work lk_M_173 (by decide) rfl rfl I_M_work rfl (Nat.le_of_ble_eq_true rfl) rfl h (fun r1 σ1 h => ?_)
        refine g_goto (tgt := 170) d_M_readAll_166 rfl ?_
        exact g_sub [1, 0] rfl h
    · have h := h.2 hc
      refine g_aload_n d_M_readAll_137 1 rfl rfl ?_
      refine g_aload_n d_M_readAll_138 1 rfl rfl ?_
      refine g_getV (x := .int (σ.1 0 10)) d_M_readAll_139 fl_M_122 (by decide) rfl rfl rfl ?_
      refine g_iconst d_M_readAll_142 (x := 1) (by decide) ?_
      refine g_isub d_M_readAll_143 ?_
      refine g_aload_n d_M_readAll_144 1 rfl rfl ?_
      refine g_getV (x := .int (σ.1 0 11)) d_M_readAll_145 fl_M_144 (by decide) rfl rfl rfl ?_
      refine g_imul d_M_readAll_148 ?_
      refine g_iconst d_M_readAll_149 (x := 1) (by decide) ?_
      refine g_iadd d_M_readAll_150 ?_
      refine g_callVi (av := [.int ((((σ.1 0 10) - 1) * (σ.1 0 11)) + 1)]) (rest := []) d_M_readAll_151 Y_M_readRow lk_M_169 (by decide) rfl rfl I_M_readRow rfl (Nat.le_of_ble_eq_true rfl) rfl h (fun r2 σ2 h => ?_)
      exact g_iret d_M_readAll_154 rfl h
  · have h := h.2 hc
    refine g_aload_n d_M_readAll_115 1 rfl rfl ?_
    refine g_aload_n d_M_readAll_116 1 rfl rfl ?_
    refine g_getV (x := .int (σ.1 0 10)) d_M_readAll_117 fl_M_122 (by decide) rfl rfl rfl ?_
    refine g_aload_n d_M_readAll_120 1 rfl rfl ?_
    refine g_getV (x := .int (σ.1 0 11)) d_M_readAll_121 fl_M_144 (by decide) rfl rfl rfl ?_
    refine g_callSi (av := [.int (σ.1 0 10), .int (σ.1 0 11)]) (rest := [.ref (v.2.2 0)]) d_M_readAll_124 Y_M_powerOf lk_M_147 I_M_powerOf rfl (Nat.le_of_ble_eq_true rfl) rfl h (fun r3 σ3 h => ?_)
    refine g_callVi (av := [.int r3]) (rest := []) d_M_readAll_127 Y_M_readRow lk_M_169 (by decide) rfl rfl I_M_readRow rfl (Nat.le_of_ble_eq_true rfl) rfl h (fun r4 σ4 h => ?_)
    exact g_iret d_M_readAll_130 rfl h
set_option maxRecDepth 20000 in
set_option maxHeartbeats 1000000 in
theorem T_M_readAll_170 {l : Launch} {v : gs_V} {n : Nat} {post : Int32 → gs_S → Prop} {σ : gs_S} {x1 : Int32} {s0 : Int32} (h : ((¬ x1 = 69 → G_M_readAll_185 l v n post σ 2) ∧ (x1 = 69 → G_M_readAll_185 l v n post σ (σ.1 0 12)))) : G_M_readAll_170 l v n post σ x1 s0 := by
  refine g_istore_n (L' := [(2, .int s0), (0, .ref (v.2.2 0)), (1, .int x1)]) d_M_readAll_170 rfl (by decide) rfl ?_
  refine g_iload_n d_M_readAll_171 2 rfl rfl ?_
  refine g_bipush d_M_readAll_172 (x := 69) (by decide) ?_
  refine g_icmp_ne (tgt := 184) d_M_readAll_174 rfl (fun hc => ?_) (fun hc => ?_)
  · have h := h.1 hc
    refine g_iconst d_M_readAll_184 (x := 2) (by decide) ?_
    exact g_sub [] rfl h
  · have h := h.2 hc
    refine g_aload_n d_M_readAll_177 1 rfl rfl ?_
    refine g_getV (x := .int (σ.1 0 12)) d_M_readAll_178 fl_M_158 (by decide) rfl rfl rfl ?_
    refine g_goto (tgt := 185) d_M_readAll_181 rfl ?_
    exact g_sub [] rfl h
set_option maxRecDepth 20000 in
set_option maxHeartbeats 1000000 in
theorem T_M_readAll_185 {l : Launch} {v : gs_V} {n : Nat} {post : Int32 → gs_S → Prop} {σ : gs_S} {s0 : Int32} (h : post s0 σ) : G_M_readAll_185 l v n post σ s0 := by
  exact g_iret d_M_readAll_185 rfl h
theorem E_M_readAll {l : Launch} {v : gs_V} {n : Nat} {post : Int32 → gs_S → Prop} {σ : gs_S} (h : G_M_readAll_0 l v n post σ) : gM l v lyM 33 me_M_readAll (n + 1) [.ref (v.2.2 0)] σ (qI v lyM 33 post) := gM_of (by decide +kernel) (Nat.le_of_ble_eq_true rfl) h
/-! LineRulesModel.ring -/
theorem d_M_ring_0 : decode me_M_ring.2.1 0 = .ok (.iload_n 1, 1) := by decide +kernel
theorem d_M_ring_1 : decode me_M_ring.2.1 1 = .ok (.iconst 1, 1) := by decide +kernel
theorem d_M_ring_2 : decode me_M_ring.2.1 2 = .ok (.if_icmp .lt 9, 3) := by decide +kernel
theorem d_M_ring_5 : decode me_M_ring.2.1 5 = .ok (.iload_n 1, 1) := by decide +kernel
theorem d_M_ring_6 : decode me_M_ring.2.1 6 = .ok (.bipush 64, 2) := by decide +kernel
theorem d_M_ring_8 : decode me_M_ring.2.1 8 = .ok (.if_icmp .le 5, 3) := by decide +kernel
theorem d_M_ring_11 : decode me_M_ring.2.1 11 = .ok (.iconst (-1), 1) := by decide +kernel
theorem d_M_ring_12 : decode me_M_ring.2.1 12 = .ok (.ireturn, 1) := by decide +kernel
theorem d_M_ring_13 : decode me_M_ring.2.1 13 = .ok (.aload_n 0, 1) := by decide +kernel
theorem d_M_ring_14 : decode me_M_ring.2.1 14 = .ok (.getfield 16, 3) := by decide +kernel
theorem d_M_ring_17 : decode me_M_ring.2.1 17 = .ok (.istore_n 2, 1) := by decide +kernel
theorem d_M_ring_18 : decode me_M_ring.2.1 18 = .ok (.aload_n 0, 1) := by decide +kernel
theorem d_M_ring_19 : decode me_M_ring.2.1 19 = .ok (.iload_n 1, 1) := by decide +kernel
theorem d_M_ring_20 : decode me_M_ring.2.1 20 = .ok (.putfield 16, 3) := by decide +kernel
theorem d_M_ring_23 : decode me_M_ring.2.1 23 = .ok (.iconst 0, 1) := by decide +kernel
theorem d_M_ring_24 : decode me_M_ring.2.1 24 = .ok (.istore_n 3, 1) := by decide +kernel
theorem d_M_ring_25 : decode me_M_ring.2.1 25 = .ok (.iload_n 3, 1) := by decide +kernel
theorem d_M_ring_26 : decode me_M_ring.2.1 26 = .ok (.bipush 64, 2) := by decide +kernel
theorem d_M_ring_28 : decode me_M_ring.2.1 28 = .ok (.if_icmp .ge 16, 3) := by decide +kernel
theorem d_M_ring_31 : decode me_M_ring.2.1 31 = .ok (.aload_n 0, 1) := by decide +kernel
theorem d_M_ring_32 : decode me_M_ring.2.1 32 = .ok (.getfield 20, 3) := by decide +kernel
theorem d_M_ring_35 : decode me_M_ring.2.1 35 = .ok (.iload_n 3, 1) := by decide +kernel
theorem d_M_ring_36 : decode me_M_ring.2.1 36 = .ok (.iconst 0, 1) := by decide +kernel
theorem d_M_ring_37 : decode me_M_ring.2.1 37 = .ok (.iastore, 1) := by decide +kernel
theorem d_M_ring_38 : decode me_M_ring.2.1 38 = .ok (.iinc 3 1, 3) := by decide +kernel
theorem d_M_ring_41 : decode me_M_ring.2.1 41 = .ok (.goto (-16), 3) := by decide +kernel
theorem d_M_ring_44 : decode me_M_ring.2.1 44 = .ok (.aload_n 0, 1) := by decide +kernel
theorem d_M_ring_45 : decode me_M_ring.2.1 45 = .ok (.iconst 0, 1) := by decide +kernel
theorem d_M_ring_46 : decode me_M_ring.2.1 46 = .ok (.putfield 210, 3) := by decide +kernel
theorem d_M_ring_49 : decode me_M_ring.2.1 49 = .ok (.iload_n 2, 1) := by decide +kernel
theorem d_M_ring_50 : decode me_M_ring.2.1 50 = .ok (.ireturn, 1) := by decide +kernel
abbrev G_M_ring_0 (l : Launch) (v : gs_V) (n : Nat) (post : Int32 → gs_S → Prop) (σ : gs_S) (x1 : Int32) : Prop := gG l v lyM 33 me_M_ring n (qI v lyM 33 post) 0 [(0, .ref (v.2.2 0)), (1, .int x1)] [] σ
abbrev G_M_ring_11 (l : Launch) (v : gs_V) (n : Nat) (post : Int32 → gs_S → Prop) (σ : gs_S) : Prop := gG l v lyM 33 me_M_ring n (qI v lyM 33 post) 11 [] [] σ
abbrev G_M_ring_25 (l : Launch) (v : gs_V) (n : Nat) (post : Int32 → gs_S → Prop) (σ : gs_S) (x2 : Int32) (x3 : Int32) : Prop := gG l v lyM 33 me_M_ring n (qI v lyM 33 post) 25 [(0, .ref (v.2.2 0)), (2, .int x2), (3, .int x3)] [] σ
set_option maxRecDepth 20000 in
set_option maxHeartbeats 1000000 in
theorem T_M_ring_0 {l : Launch} {v : gs_V} {n : Nat} {post : Int32 → gs_S → Prop} {σ : gs_S} {x1 : Int32} (h : ((x1 < 1 → G_M_ring_11 l v n post σ) ∧ (¬ x1 < 1 → ((x1 ≤ 64 → G_M_ring_25 l v n post (gs_pI σ 0 7 x1) (σ.1 0 7) 0) ∧ (¬ x1 ≤ 64 → G_M_ring_11 l v n post σ))))) : G_M_ring_0 l v n post σ x1 := by
  refine g_iload_n d_M_ring_0 1 rfl rfl ?_
  refine g_iconst d_M_ring_1 (x := 1) (by decide) ?_
  refine g_icmp_lt (tgt := 11) d_M_ring_2 rfl (fun hc => ?_) (fun hc => ?_)
  · have h := h.1 hc
    exact g_sub [] rfl h
  · have h := h.2 hc
    refine g_iload_n d_M_ring_5 1 rfl rfl ?_
    refine g_bipush d_M_ring_6 (x := 64) (by decide) ?_
    refine g_icmp_le (tgt := 13) d_M_ring_8 rfl (fun hc => ?_) (fun hc => ?_)
    · have h := h.1 hc
      refine g_aload_n d_M_ring_13 0 rfl rfl ?_
      refine g_getV (x := .int (σ.1 0 7)) d_M_ring_14 fl_M_16 (by decide) rfl rfl rfl ?_
      refine g_istore_n (L' := [(2, .int (σ.1 0 7)), (0, .ref (v.2.2 0)), (1, .int x1)]) d_M_ring_17 rfl (by decide) rfl ?_
      refine g_aload_n d_M_ring_18 1 rfl rfl ?_
      refine g_iload_n d_M_ring_19 2 rfl rfl ?_
      refine g_putI d_M_ring_20 fp_M_16 (by decide) rfl rfl ⟨rfl, rfl⟩ ?_
      refine g_iconst d_M_ring_23 (x := 0) (by decide) ?_
      refine g_istore_n (L' := [(3, .int 0), (2, .int (σ.1 0 7)), (0, .ref (v.2.2 0)), (1, .int x1)]) d_M_ring_24 rfl (by decide) rfl ?_
      exact g_sub [2, 1, 0] rfl h
    · have h := h.2 hc
      exact g_sub [] rfl h
set_option maxRecDepth 20000 in
set_option maxHeartbeats 1000000 in
theorem T_M_ring_11 {l : Launch} {v : gs_V} {n : Nat} {post : Int32 → gs_S → Prop} {σ : gs_S} (h : post ((-1)) σ) : G_M_ring_11 l v n post σ := by
  refine g_iconst d_M_ring_11 (x := (-1)) (by decide) ?_
  exact g_iret d_M_ring_12 rfl h
set_option maxRecDepth 20000 in
set_option maxHeartbeats 1000000 in
theorem T_M_ring_25 {l : Launch} {v : gs_V} {n : Nat} {post : Int32 → gs_S → Prop} {σ : gs_S} {x2 : Int32} {x3 : Int32} (h : ((64 ≤ x3 → post x2 (gs_pI σ 0 47 0)) ∧ (¬ 64 ≤ x3 → vp_in x3 64 ∧ G_M_ring_25 l v n post (gs_pI σ 3 x3.toNatClampNeg 0) x2 (x3 + 1)))) : G_M_ring_25 l v n post σ x2 x3 := by
  refine g_iload_n d_M_ring_25 2 rfl rfl ?_
  refine g_bipush d_M_ring_26 (x := 64) (by decide) ?_
  refine g_icmp_ge (tgt := 44) d_M_ring_28 rfl (fun hc => ?_) (fun hc => ?_)
  · have h := h.1 hc
    refine g_aload_n d_M_ring_44 0 rfl rfl ?_
    refine g_iconst d_M_ring_45 (x := 0) (by decide) ?_
    refine g_putI d_M_ring_46 fp_M_210 (by decide) rfl rfl ⟨rfl, rfl⟩ ?_
    refine g_iload_n d_M_ring_49 1 rfl rfl ?_
    exact g_iret d_M_ring_50 rfl h
  · have h := h.2 hc
    refine g_aload_n d_M_ring_31 0 rfl rfl ?_
    refine g_getV (x := .ref (v.2.2 3)) d_M_ring_32 fl_M_20 (by decide) rfl rfl rfl ?_
    refine g_iload_n d_M_ring_35 2 rfl rfl ?_
    refine g_iconst d_M_ring_36 (x := 0) (by decide) ?_
    have hi1 := h.1
    have h := h.2
    refine g_iast d_M_ring_37 (by decide) rfl hi1 ?_
    refine g_iinc (L' := [(3, .int (x3 + 1)), (0, .ref (v.2.2 0)), (2, .int x2)]) d_M_ring_38 2 rfl (by rfl) (by decide) rfl ?_
    refine g_goto (tgt := 25) d_M_ring_41 rfl ?_
    exact g_sub [1, 2, 0] rfl h
theorem E_M_ring {l : Launch} {v : gs_V} {n : Nat} {post : Int32 → gs_S → Prop} {σ : gs_S} {x1 : Int32} (h : G_M_ring_0 l v n post σ x1) : gM l v lyM 33 me_M_ring (n + 1) [.ref (v.2.2 0), .int x1] σ (qI v lyM 33 post) := gM_of (by decide +kernel) (Nat.le_of_ble_eq_true rfl) h
/-! LineRulesModel.rule -/
theorem d_M_rule_0 : decode me_M_rule.2.1 0 = .ok (.aload_n 0, 1) := by decide +kernel
theorem d_M_rule_1 : decode me_M_rule.2.1 1 = .ok (.invokevirtual 176, 3) := by decide +kernel
theorem d_M_rule_4 : decode me_M_rule.2.1 4 = .ok (.istore_n 1, 1) := by decide +kernel
theorem d_M_rule_5 : decode me_M_rule.2.1 5 = .ok (.iload_n 1, 1) := by decide +kernel
theorem d_M_rule_6 : decode me_M_rule.2.1 6 = .ok (.ifCond .lt 13, 3) := by decide +kernel
theorem d_M_rule_9 : decode me_M_rule.2.1 9 = .ok (.aload_n 0, 1) := by decide +kernel
theorem d_M_rule_10 : decode me_M_rule.2.1 10 = .ok (.iconst 0, 1) := by decide +kernel
theorem d_M_rule_11 : decode me_M_rule.2.1 11 = .ok (.putfield 112, 3) := by decide +kernel
theorem d_M_rule_14 : decode me_M_rule.2.1 14 = .ok (.bipush (-10), 2) := by decide +kernel
theorem d_M_rule_16 : decode me_M_rule.2.1 16 = .ok (.iload_n 1, 1) := by decide +kernel
theorem d_M_rule_17 : decode me_M_rule.2.1 17 = .ok (.isub, 1) := by decide +kernel
theorem d_M_rule_18 : decode me_M_rule.2.1 18 = .ok (.ireturn, 1) := by decide +kernel
theorem d_M_rule_19 : decode me_M_rule.2.1 19 = .ok (.aload_n 0, 1) := by decide +kernel
theorem d_M_rule_20 : decode me_M_rule.2.1 20 = .ok (.aload_n 0, 1) := by decide +kernel
theorem d_M_rule_21 : decode me_M_rule.2.1 21 = .ok (.getfield 122, 3) := by decide +kernel
theorem d_M_rule_24 : decode me_M_rule.2.1 24 = .ok (.putfield 179, 3) := by decide +kernel
theorem d_M_rule_27 : decode me_M_rule.2.1 27 = .ok (.aload_n 0, 1) := by decide +kernel
theorem d_M_rule_28 : decode me_M_rule.2.1 28 = .ok (.aload_n 0, 1) := by decide +kernel
theorem d_M_rule_29 : decode me_M_rule.2.1 29 = .ok (.getfield 144, 3) := by decide +kernel
theorem d_M_rule_32 : decode me_M_rule.2.1 32 = .ok (.putfield 182, 3) := by decide +kernel
theorem d_M_rule_35 : decode me_M_rule.2.1 35 = .ok (.aload_n 0, 1) := by decide +kernel
theorem d_M_rule_36 : decode me_M_rule.2.1 36 = .ok (.aload_n 0, 1) := by decide +kernel
theorem d_M_rule_37 : decode me_M_rule.2.1 37 = .ok (.getfield 179, 3) := by decide +kernel
theorem d_M_rule_40 : decode me_M_rule.2.1 40 = .ok (.aload_n 0, 1) := by decide +kernel
theorem d_M_rule_41 : decode me_M_rule.2.1 41 = .ok (.getfield 182, 3) := by decide +kernel
theorem d_M_rule_44 : decode me_M_rule.2.1 44 = .ok (.invokestatic 147, 3) := by decide +kernel
theorem d_M_rule_47 : decode me_M_rule.2.1 47 = .ok (.putfield 185, 3) := by decide +kernel
theorem d_M_rule_50 : decode me_M_rule.2.1 50 = .ok (.aload_n 0, 1) := by decide +kernel
theorem d_M_rule_51 : decode me_M_rule.2.1 51 = .ok (.aload_n 0, 1) := by decide +kernel
theorem d_M_rule_52 : decode me_M_rule.2.1 52 = .ok (.getfield 185, 3) := by decide +kernel
theorem d_M_rule_55 : decode me_M_rule.2.1 55 = .ok (.aload_n 0, 1) := by decide +kernel
theorem d_M_rule_56 : decode me_M_rule.2.1 56 = .ok (.getfield 179, 3) := by decide +kernel
theorem d_M_rule_59 : decode me_M_rule.2.1 59 = .ok (.idiv, 1) := by decide +kernel
theorem d_M_rule_60 : decode me_M_rule.2.1 60 = .ok (.putfield 188, 3) := by decide +kernel
theorem d_M_rule_63 : decode me_M_rule.2.1 63 = .ok (.iconst 0, 1) := by decide +kernel
theorem d_M_rule_64 : decode me_M_rule.2.1 64 = .ok (.istore_n 2, 1) := by decide +kernel
theorem d_M_rule_65 : decode me_M_rule.2.1 65 = .ok (.iload_n 2, 1) := by decide +kernel
theorem d_M_rule_66 : decode me_M_rule.2.1 66 = .ok (.aload_n 0, 1) := by decide +kernel
theorem d_M_rule_67 : decode me_M_rule.2.1 67 = .ok (.getfield 185, 3) := by decide +kernel
theorem d_M_rule_70 : decode me_M_rule.2.1 70 = .ok (.if_icmp .ge 77, 3) := by decide +kernel
theorem d_M_rule_73 : decode me_M_rule.2.1 73 = .ok (.aload_n 0, 1) := by decide +kernel
theorem d_M_rule_74 : decode me_M_rule.2.1 74 = .ok (.getfield 13, 3) := by decide +kernel
theorem d_M_rule_77 : decode me_M_rule.2.1 77 = .ok (.iload_n 2, 1) := by decide +kernel
theorem d_M_rule_78 : decode me_M_rule.2.1 78 = .ok (.aload_n 0, 1) := by decide +kernel
theorem d_M_rule_79 : decode me_M_rule.2.1 79 = .ok (.getfield 7, 3) := by decide +kernel
theorem d_M_rule_82 : decode me_M_rule.2.1 82 = .ok (.iconst 2, 1) := by decide +kernel
theorem d_M_rule_83 : decode me_M_rule.2.1 83 = .ok (.iaload, 1) := by decide +kernel
theorem d_M_rule_84 : decode me_M_rule.2.1 84 = .ok (.bipush 84, 2) := by decide +kernel
theorem d_M_rule_86 : decode me_M_rule.2.1 86 = .ok (.if_icmp .ne 17, 3) := by decide +kernel
theorem d_M_rule_89 : decode me_M_rule.2.1 89 = .ok (.aload_n 0, 1) := by decide +kernel
theorem d_M_rule_90 : decode me_M_rule.2.1 90 = .ok (.getfield 7, 3) := by decide +kernel
theorem d_M_rule_93 : decode me_M_rule.2.1 93 = .ok (.iconst 3, 1) := by decide +kernel
theorem d_M_rule_94 : decode me_M_rule.2.1 94 = .ok (.iload_n 2, 1) := by decide +kernel
theorem d_M_rule_95 : decode me_M_rule.2.1 95 = .ok (.iadd, 1) := by decide +kernel
theorem d_M_rule_96 : decode me_M_rule.2.1 96 = .ok (.iaload, 1) := by decide +kernel
theorem d_M_rule_97 : decode me_M_rule.2.1 97 = .ok (.bipush 48, 2) := by decide +kernel
theorem d_M_rule_99 : decode me_M_rule.2.1 99 = .ok (.isub, 1) := by decide +kernel
theorem d_M_rule_100 : decode me_M_rule.2.1 100 = .ok (.goto 40, 3) := by decide +kernel
theorem d_M_rule_103 : decode me_M_rule.2.1 103 = .ok (.aload_n 0, 1) := by decide +kernel
theorem d_M_rule_104 : decode me_M_rule.2.1 104 = .ok (.getfield 7, 3) := by decide +kernel
theorem d_M_rule_107 : decode me_M_rule.2.1 107 = .ok (.iconst 2, 1) := by decide +kernel
theorem d_M_rule_108 : decode me_M_rule.2.1 108 = .ok (.iaload, 1) := by decide +kernel
theorem d_M_rule_109 : decode me_M_rule.2.1 109 = .ok (.bipush 83, 2) := by decide +kernel
theorem d_M_rule_111 : decode me_M_rule.2.1 111 = .ok (.if_icmp .ne 24, 3) := by decide +kernel
theorem d_M_rule_114 : decode me_M_rule.2.1 114 = .ok (.aload_n 0, 1) := by decide +kernel
theorem d_M_rule_115 : decode me_M_rule.2.1 115 = .ok (.getfield 7, 3) := by decide +kernel
theorem d_M_rule_118 : decode me_M_rule.2.1 118 = .ok (.iconst 3, 1) := by decide +kernel
theorem d_M_rule_119 : decode me_M_rule.2.1 119 = .ok (.iload_n 2, 1) := by decide +kernel
theorem d_M_rule_120 : decode me_M_rule.2.1 120 = .ok (.aload_n 0, 1) := by decide +kernel
theorem d_M_rule_121 : decode me_M_rule.2.1 121 = .ok (.getfield 179, 3) := by decide +kernel
theorem d_M_rule_124 : decode me_M_rule.2.1 124 = .ok (.invokestatic 191, 3) := by decide +kernel
theorem d_M_rule_127 : decode me_M_rule.2.1 127 = .ok (.iadd, 1) := by decide +kernel
theorem d_M_rule_128 : decode me_M_rule.2.1 128 = .ok (.iaload, 1) := by decide +kernel
theorem d_M_rule_129 : decode me_M_rule.2.1 129 = .ok (.bipush 48, 2) := by decide +kernel
theorem d_M_rule_131 : decode me_M_rule.2.1 131 = .ok (.isub, 1) := by decide +kernel
theorem d_M_rule_132 : decode me_M_rule.2.1 132 = .ok (.goto 8, 3) := by decide +kernel
theorem d_M_rule_135 : decode me_M_rule.2.1 135 = .ok (.aload_n 0, 1) := by decide +kernel
theorem d_M_rule_136 : decode me_M_rule.2.1 136 = .ok (.iload_n 2, 1) := by decide +kernel
theorem d_M_rule_137 : decode me_M_rule.2.1 137 = .ok (.invokevirtual 173, 3) := by decide +kernel
theorem d_M_rule_140 : decode me_M_rule.2.1 140 = .ok (.iastore, 1) := by decide +kernel
theorem d_M_rule_141 : decode me_M_rule.2.1 141 = .ok (.iinc 2 1, 3) := by decide +kernel
theorem d_M_rule_144 : decode me_M_rule.2.1 144 = .ok (.goto (-79), 3) := by decide +kernel
theorem d_M_rule_147 : decode me_M_rule.2.1 147 = .ok (.aload_n 0, 1) := by decide +kernel
theorem d_M_rule_148 : decode me_M_rule.2.1 148 = .ok (.iconst 0, 1) := by decide +kernel
theorem d_M_rule_149 : decode me_M_rule.2.1 149 = .ok (.putfield 112, 3) := by decide +kernel
theorem d_M_rule_152 : decode me_M_rule.2.1 152 = .ok (.iconst 0, 1) := by decide +kernel
theorem d_M_rule_153 : decode me_M_rule.2.1 153 = .ok (.istore_n 2, 1) := by decide +kernel
theorem d_M_rule_154 : decode me_M_rule.2.1 154 = .ok (.iload_n 2, 1) := by decide +kernel
theorem d_M_rule_155 : decode me_M_rule.2.1 155 = .ok (.bipush 64, 2) := by decide +kernel
theorem d_M_rule_157 : decode me_M_rule.2.1 157 = .ok (.if_icmp .ge 16, 3) := by decide +kernel
theorem d_M_rule_160 : decode me_M_rule.2.1 160 = .ok (.aload_n 0, 1) := by decide +kernel
theorem d_M_rule_161 : decode me_M_rule.2.1 161 = .ok (.getfield 20, 3) := by decide +kernel
theorem d_M_rule_164 : decode me_M_rule.2.1 164 = .ok (.iload_n 2, 1) := by decide +kernel
theorem d_M_rule_165 : decode me_M_rule.2.1 165 = .ok (.iconst 0, 1) := by decide +kernel
theorem d_M_rule_166 : decode me_M_rule.2.1 166 = .ok (.iastore, 1) := by decide +kernel
theorem d_M_rule_167 : decode me_M_rule.2.1 167 = .ok (.iinc 2 1, 3) := by decide +kernel
theorem d_M_rule_170 : decode me_M_rule.2.1 170 = .ok (.goto (-16), 3) := by decide +kernel
theorem d_M_rule_173 : decode me_M_rule.2.1 173 = .ok (.aload_n 0, 1) := by decide +kernel
theorem d_M_rule_174 : decode me_M_rule.2.1 174 = .ok (.iconst 0, 1) := by decide +kernel
theorem d_M_rule_175 : decode me_M_rule.2.1 175 = .ok (.putfield 194, 3) := by decide +kernel
theorem d_M_rule_178 : decode me_M_rule.2.1 178 = .ok (.aload_n 0, 1) := by decide +kernel
theorem d_M_rule_179 : decode me_M_rule.2.1 179 = .ok (.iconst 0, 1) := by decide +kernel
theorem d_M_rule_180 : decode me_M_rule.2.1 180 = .ok (.putfield 197, 3) := by decide +kernel
theorem d_M_rule_183 : decode me_M_rule.2.1 183 = .ok (.aload_n 0, 1) := by decide +kernel
theorem d_M_rule_184 : decode me_M_rule.2.1 184 = .ok (.iconst 0, 1) := by decide +kernel
theorem d_M_rule_185 : decode me_M_rule.2.1 185 = .ok (.putfield 200, 3) := by decide +kernel
theorem d_M_rule_188 : decode me_M_rule.2.1 188 = .ok (.aload_n 0, 1) := by decide +kernel
theorem d_M_rule_189 : decode me_M_rule.2.1 189 = .ok (.iconst 0, 1) := by decide +kernel
theorem d_M_rule_190 : decode me_M_rule.2.1 190 = .ok (.putfield 204, 3) := by decide +kernel
theorem d_M_rule_193 : decode me_M_rule.2.1 193 = .ok (.aload_n 0, 1) := by decide +kernel
theorem d_M_rule_194 : decode me_M_rule.2.1 194 = .ok (.iconst 0, 1) := by decide +kernel
theorem d_M_rule_195 : decode me_M_rule.2.1 195 = .ok (.putfield 207, 3) := by decide +kernel
theorem d_M_rule_198 : decode me_M_rule.2.1 198 = .ok (.aload_n 0, 1) := by decide +kernel
theorem d_M_rule_199 : decode me_M_rule.2.1 199 = .ok (.iconst 0, 1) := by decide +kernel
theorem d_M_rule_200 : decode me_M_rule.2.1 200 = .ok (.putfield 210, 3) := by decide +kernel
theorem d_M_rule_203 : decode me_M_rule.2.1 203 = .ok (.aload_n 0, 1) := by decide +kernel
theorem d_M_rule_204 : decode me_M_rule.2.1 204 = .ok (.getfield 179, 3) := by decide +kernel
theorem d_M_rule_207 : decode me_M_rule.2.1 207 = .ok (.ireturn, 1) := by decide +kernel
abbrev G_M_rule_0 (l : Launch) (v : gs_V) (n : Nat) (post : Int32 → gs_S → Prop) (σ : gs_S) : Prop := gG l v lyM 33 me_M_rule n (qI v lyM 33 post) 0 [(0, .ref (v.2.2 0))] [] σ
abbrev G_M_rule_65 (l : Launch) (v : gs_V) (n : Nat) (post : Int32 → gs_S → Prop) (σ : gs_S) (x2 : Int32) : Prop := gG l v lyM 33 me_M_rule n (qI v lyM 33 post) 65 [(0, .ref (v.2.2 0)), (2, .int x2)] [] σ
abbrev G_M_rule_140 (l : Launch) (v : gs_V) (n : Nat) (post : Int32 → gs_S → Prop) (σ : gs_S) (x2 : Int32) (s0 : Int32) (s1 : Int32) : Prop := gG l v lyM 33 me_M_rule n (qI v lyM 33 post) 140 [(0, .ref (v.2.2 0)), (2, .int x2)] [.int s0, .int s1, .ref (v.2.2 2)] σ
abbrev G_M_rule_154 (l : Launch) (v : gs_V) (n : Nat) (post : Int32 → gs_S → Prop) (σ : gs_S) (x2 : Int32) : Prop := gG l v lyM 33 me_M_rule n (qI v lyM 33 post) 154 [(0, .ref (v.2.2 0)), (2, .int x2)] [] σ
set_option maxRecDepth 20000 in
set_option maxHeartbeats 1000000 in
theorem T_M_rule_0 {l : Launch} {v : gs_V} {n : Nat} {post : Int32 → gs_S → Prop} {σ : gs_S} (h : gM l v lyM 33 me_M_readAll n [.ref (v.2.2 0)] σ (qI v lyM 33 (fun r1 σ1 => ((r1 < 0 → gM l v lyM 33 me_M_powerOf n [.int (σ1.1 0 10), .int (σ1.1 0 11)] (gs_pI (gs_pI σ1 0 2 (σ1.1 0 10)) 0 3 (σ1.1 0 11)) (qI v lyM 33 (fun r2 σ2 => ¬ (σ2.1 0 2) = 0 ∧ G_M_rule_65 l v n post (gs_pI (gs_pI σ2 0 5 r2) 0 4 (r2 / (σ2.1 0 2))) 0))) ∧ (¬ r1 < 0 → post (((-10)) - r1) (gs_pI σ1 0 0 0)))))) : G_M_rule_0 l v n post σ := by
  refine g_aload_n d_M_rule_0 0 rfl rfl ?_
  refine g_callVi (av := []) (rest := []) d_M_rule_1 Y_M_readAll lk_M_176 (by decide) rfl rfl I_M_readAll rfl (Nat.le_of_ble_eq_true rfl) rfl h (fun r1 σ1 h => ?_)
  refine g_istore_n (L' := [(1, .int r1), (0, .ref (v.2.2 0))]) d_M_rule_4 rfl (by decide) rfl ?_
  refine g_iload_n d_M_rule_5 0 rfl rfl ?_
  refine g_if_lt (tgt := 19) d_M_rule_6 rfl (fun hc => ?_) (fun hc => ?_)
  · have h := h.1 hc
    refine g_aload_n d_M_rule_19 1 rfl rfl ?_
    refine g_aload_n d_M_rule_20 1 rfl rfl ?_
    refine g_getV (x := .int (σ1.1 0 10)) d_M_rule_21 fl_M_122 (by decide) rfl rfl rfl ?_
    refine g_putI d_M_rule_24 fp_M_179 (by decide) rfl rfl ⟨rfl, rfl⟩ ?_
    refine g_aload_n d_M_rule_27 1 rfl rfl ?_
    refine g_aload_n d_M_rule_28 1 rfl rfl ?_
    refine g_getV (x := .int (σ1.1 0 11)) d_M_rule_29 fl_M_144 (by decide) rfl rfl rfl ?_
    refine g_putI d_M_rule_32 fp_M_182 (by decide) rfl rfl ⟨rfl, rfl⟩ ?_
    refine g_aload_n d_M_rule_35 1 rfl rfl ?_
    refine g_aload_n d_M_rule_36 1 rfl rfl ?_
    refine g_getV (x := .int (σ1.1 0 10)) d_M_rule_37 fl_M_179 (by decide) rfl rfl rfl ?_
    refine g_aload_n d_M_rule_40 1 rfl rfl ?_
    refine g_getV (x := .int (σ1.1 0 11)) d_M_rule_41 fl_M_182 (by decide) rfl rfl rfl ?_
    refine g_callSi (av := [.int (σ1.1 0 10), .int (σ1.1 0 11)]) (rest := [.ref (v.2.2 0)]) d_M_rule_44 Y_M_powerOf lk_M_147 I_M_powerOf rfl (Nat.le_of_ble_eq_true rfl) rfl h (fun r2 σ2 h => ?_)
    refine g_putI d_M_rule_47 fp_M_185 (by decide) rfl rfl ⟨rfl, rfl⟩ ?_
    refine g_aload_n d_M_rule_50 1 rfl rfl ?_
    refine g_aload_n d_M_rule_51 1 rfl rfl ?_
    refine g_getV (x := .int r2) d_M_rule_52 fl_M_185 (by decide) rfl rfl rfl ?_
    refine g_aload_n d_M_rule_55 1 rfl rfl ?_
    refine g_getV (x := .int (σ2.1 0 2)) d_M_rule_56 fl_M_179 (by decide) rfl rfl rfl ?_
    refine g_idiv d_M_rule_59 h.1 ?_
    have h := h.2
    refine g_putI d_M_rule_60 fp_M_188 (by decide) rfl rfl ⟨rfl, rfl⟩ ?_
    refine g_iconst d_M_rule_63 (x := 0) (by decide) ?_
    refine g_istore_n (L' := [(2, .int 0), (1, .int r1), (0, .ref (v.2.2 0))]) d_M_rule_64 rfl (by decide) rfl ?_
    exact g_sub [2, 0] rfl h
  · have h := h.2 hc
    refine g_aload_n d_M_rule_9 1 rfl rfl ?_
    refine g_iconst d_M_rule_10 (x := 0) (by decide) ?_
    refine g_putI d_M_rule_11 fp_M_112 (by decide) rfl rfl ⟨rfl, rfl⟩ ?_
    refine g_bipush d_M_rule_14 (x := (-10)) (by decide) ?_
    refine g_iload_n d_M_rule_16 0 rfl rfl ?_
    refine g_isub d_M_rule_17 ?_
    exact g_iret d_M_rule_18 rfl h
set_option maxRecDepth 20000 in
set_option maxHeartbeats 1000000 in
theorem T_M_rule_65 {l : Launch} {v : gs_V} {n : Nat} {post : Int32 → gs_S → Prop} {σ : gs_S} {x2 : Int32} (h : (((σ.1 0 5) ≤ x2 → G_M_rule_154 l v n post (gs_pI σ 0 0 0) 0) ∧ (¬ (σ.1 0 5) ≤ x2 → ((¬ (σ.1 1 2) = 84 → ((¬ (σ.1 1 2) = 83 → gM l v lyM 33 me_M_work n [.ref (v.2.2 0), .int x2] σ (qI v lyM 33 (fun r1 σ1 => G_M_rule_140 l v n post σ1 x2 r1 x2))) ∧ ((σ.1 1 2) = 83 → gM l v lyM 33 me_M_digitSum n [.int x2, .int (σ.1 0 2)] σ (qI v lyM 33 (fun r2 σ2 => vp_in (3 + r2) 64 ∧ G_M_rule_140 l v n post σ2 x2 ((σ2.1 1 ((3 + r2).toNatClampNeg)) - 48) x2))))) ∧ ((σ.1 1 2) = 84 → vp_in (3 + x2) 64 ∧ G_M_rule_140 l v n post σ x2 ((σ.1 1 ((3 + x2).toNatClampNeg)) - 48) x2))))) : G_M_rule_65 l v n post σ x2 := by
  refine g_iload_n d_M_rule_65 1 rfl rfl ?_
  refine g_aload_n d_M_rule_66 0 rfl rfl ?_
  refine g_getV (x := .int (σ.1 0 5)) d_M_rule_67 fl_M_185 (by decide) rfl rfl rfl ?_
  refine g_icmp_ge (tgt := 147) d_M_rule_70 rfl (fun hc => ?_) (fun hc => ?_)
  · have h := h.1 hc
    refine g_aload_n d_M_rule_147 0 rfl rfl ?_
    refine g_iconst d_M_rule_148 (x := 0) (by decide) ?_
    refine g_putI d_M_rule_149 fp_M_112 (by decide) rfl rfl ⟨rfl, rfl⟩ ?_
    refine g_iconst d_M_rule_152 (x := 0) (by decide) ?_
    refine g_istore_n (L' := [(2, .int 0), (0, .ref (v.2.2 0))]) d_M_rule_153 rfl (by decide) rfl ?_
    exact g_sub [1, 0] rfl h
  · have h := h.2 hc
    refine g_aload_n d_M_rule_73 0 rfl rfl ?_
    refine g_getV (x := .ref (v.2.2 2)) d_M_rule_74 fl_M_13 (by decide) rfl rfl rfl ?_
    refine g_iload_n d_M_rule_77 1 rfl rfl ?_
    refine g_aload_n d_M_rule_78 0 rfl rfl ?_
    refine g_getV (x := .ref (v.2.2 1)) d_M_rule_79 fl_M_7 (by decide) rfl rfl rfl ?_
    refine g_iconst d_M_rule_82 (x := 2) (by decide) ?_
    refine g_iald (x := σ.1 1 2) d_M_rule_83 (by decide) rfl (g_lit (k := 2) (by decide) (by decide)) rfl ?_
    refine g_bipush d_M_rule_84 (x := 84) (by decide) ?_
    refine g_icmp_ne (tgt := 103) d_M_rule_86 rfl (fun hc => ?_) (fun hc => ?_)
    · have h := h.1 hc
      refine g_aload_n d_M_rule_103 0 rfl rfl ?_
      refine g_getV (x := .ref (v.2.2 1)) d_M_rule_104 fl_M_7 (by decide) rfl rfl rfl ?_
      refine g_iconst d_M_rule_107 (x := 2) (by decide) ?_
      refine g_iald (x := σ.1 1 2) d_M_rule_108 (by decide) rfl (g_lit (k := 2) (by decide) (by decide)) rfl ?_
      refine g_bipush d_M_rule_109 (x := 83) (by decide) ?_
      refine g_icmp_ne (tgt := 135) d_M_rule_111 rfl (fun hc => ?_) (fun hc => ?_)
      · have h := h.1 hc
        refine g_aload_n d_M_rule_135 0 rfl rfl ?_
        refine g_iload_n d_M_rule_136 1 rfl rfl ?_
        refine g_callVi (av := [.int x2]) (rest := [.int x2, .ref (v.2.2 2)]) d_M_rule_137 Y_M_work lk_M_173 (by decide) rfl rfl I_M_work rfl (Nat.le_of_ble_eq_true rfl) rfl h (fun r1 σ1 h => ?_)
        exact h
      · have h := h.2 hc
        refine g_aload_n d_M_rule_114 0 rfl rfl ?_
        refine g_getV (x := .ref (v.2.2 1)) d_M_rule_115 fl_M_7 (by decide) rfl rfl rfl ?_
        refine g_iconst d_M_rule_118 (x := 3) (by decide) ?_
        refine g_iload_n d_M_rule_119 1 rfl rfl ?_
        refine g_aload_n d_M_rule_120 0 rfl rfl ?_
        refine g_getV (x := .int (σ.1 0 2)) d_M_rule_121 fl_M_179 (by decide) rfl rfl rfl ?_
        refine g_callSi (av := [.int x2, .int (σ.1 0 2)]) (rest := [.int 3, .ref (v.2.2 1), .int x2, .ref (v.2.2 2)]) d_M_rule_124 Y_M_digitSum lk_M_191 I_M_digitSum rfl (Nat.le_of_ble_eq_true rfl) rfl h (fun r2 σ2 h => ?_)
        refine g_iadd d_M_rule_127 ?_
        have hi3 := h.1
        have h := h.2
        refine g_iald (x := σ2.1 1 ((3 + r2).toNatClampNeg)) d_M_rule_128 (by decide) rfl hi3 rfl ?_
        refine g_bipush d_M_rule_129 (x := 48) (by decide) ?_
        refine g_isub d_M_rule_131 ?_
        refine g_goto (tgt := 140) d_M_rule_132 rfl ?_
        exact h
    · have h := h.2 hc
      refine g_aload_n d_M_rule_89 0 rfl rfl ?_
      refine g_getV (x := .ref (v.2.2 1)) d_M_rule_90 fl_M_7 (by decide) rfl rfl rfl ?_
      refine g_iconst d_M_rule_93 (x := 3) (by decide) ?_
      refine g_iload_n d_M_rule_94 1 rfl rfl ?_
      refine g_iadd d_M_rule_95 ?_
      have hi4 := h.1
      have h := h.2
      refine g_iald (x := σ.1 1 ((3 + x2).toNatClampNeg)) d_M_rule_96 (by decide) rfl hi4 rfl ?_
      refine g_bipush d_M_rule_97 (x := 48) (by decide) ?_
      refine g_isub d_M_rule_99 ?_
      refine g_goto (tgt := 140) d_M_rule_100 rfl ?_
      exact h
set_option maxRecDepth 20000 in
set_option maxHeartbeats 1000000 in
theorem T_M_rule_140 {l : Launch} {v : gs_V} {n : Nat} {post : Int32 → gs_S → Prop} {σ : gs_S} {x2 : Int32} {s0 : Int32} {s1 : Int32} (h : vp_in s1 256 ∧ G_M_rule_65 l v n post (gs_pI σ 2 s1.toNatClampNeg s0) (x2 + 1)) : G_M_rule_140 l v n post σ x2 s0 s1 := by
  have hi1 := h.1
  have h := h.2
  refine g_iast d_M_rule_140 (by decide) rfl hi1 ?_
  refine g_iinc (L' := [(2, .int (x2 + 1)), (0, .ref (v.2.2 0))]) d_M_rule_141 1 rfl (by rfl) (by decide) rfl ?_
  refine g_goto (tgt := 65) d_M_rule_144 rfl ?_
  exact g_sub [1, 0] rfl h
set_option maxRecDepth 20000 in
set_option maxHeartbeats 1000000 in
theorem T_M_rule_154 {l : Launch} {v : gs_V} {n : Nat} {post : Int32 → gs_S → Prop} {σ : gs_S} {x2 : Int32} (h : ((64 ≤ x2 → post (σ.1 0 2) (gs_pI (gs_pI (gs_pI (gs_pI (gs_pI (gs_pI σ 0 28 0) 0 29 0) 0 31 0) 0 35 0) 0 41 0) 0 47 0)) ∧ (¬ 64 ≤ x2 → vp_in x2 64 ∧ G_M_rule_154 l v n post (gs_pI σ 3 x2.toNatClampNeg 0) (x2 + 1)))) : G_M_rule_154 l v n post σ x2 := by
  refine g_iload_n d_M_rule_154 1 rfl rfl ?_
  refine g_bipush d_M_rule_155 (x := 64) (by decide) ?_
  refine g_icmp_ge (tgt := 173) d_M_rule_157 rfl (fun hc => ?_) (fun hc => ?_)
  · have h := h.1 hc
    refine g_aload_n d_M_rule_173 0 rfl rfl ?_
    refine g_iconst d_M_rule_174 (x := 0) (by decide) ?_
    refine g_putI d_M_rule_175 fp_M_194 (by decide) rfl rfl ⟨rfl, rfl⟩ ?_
    refine g_aload_n d_M_rule_178 0 rfl rfl ?_
    refine g_iconst d_M_rule_179 (x := 0) (by decide) ?_
    refine g_putI d_M_rule_180 fp_M_197 (by decide) rfl rfl ⟨rfl, rfl⟩ ?_
    refine g_aload_n d_M_rule_183 0 rfl rfl ?_
    refine g_iconst d_M_rule_184 (x := 0) (by decide) ?_
    refine g_putI d_M_rule_185 fp_M_200 (by decide) rfl rfl ⟨rfl, rfl⟩ ?_
    refine g_aload_n d_M_rule_188 0 rfl rfl ?_
    refine g_iconst d_M_rule_189 (x := 0) (by decide) ?_
    refine g_putI d_M_rule_190 fp_M_204 (by decide) rfl rfl ⟨rfl, rfl⟩ ?_
    refine g_aload_n d_M_rule_193 0 rfl rfl ?_
    refine g_iconst d_M_rule_194 (x := 0) (by decide) ?_
    refine g_putI d_M_rule_195 fp_M_207 (by decide) rfl rfl ⟨rfl, rfl⟩ ?_
    refine g_aload_n d_M_rule_198 0 rfl rfl ?_
    refine g_iconst d_M_rule_199 (x := 0) (by decide) ?_
    refine g_putI d_M_rule_200 fp_M_210 (by decide) rfl rfl ⟨rfl, rfl⟩ ?_
    refine g_aload_n d_M_rule_203 0 rfl rfl ?_
    refine g_getV (x := .int (σ.1 0 2)) d_M_rule_204 fl_M_179 (by decide) rfl rfl rfl ?_
    exact g_iret d_M_rule_207 rfl h
  · have h := h.2 hc
    refine g_aload_n d_M_rule_160 0 rfl rfl ?_
    refine g_getV (x := .ref (v.2.2 3)) d_M_rule_161 fl_M_20 (by decide) rfl rfl rfl ?_
    refine g_iload_n d_M_rule_164 1 rfl rfl ?_
    refine g_iconst d_M_rule_165 (x := 0) (by decide) ?_
    have hi1 := h.1
    have h := h.2
    refine g_iast d_M_rule_166 (by decide) rfl hi1 ?_
    refine g_iinc (L' := [(2, .int (x2 + 1)), (0, .ref (v.2.2 0))]) d_M_rule_167 1 rfl (by rfl) (by decide) rfl ?_
    refine g_goto (tgt := 154) d_M_rule_170 rfl ?_
    exact g_sub [1, 0] rfl h
theorem E_M_rule {l : Launch} {v : gs_V} {n : Nat} {post : Int32 → gs_S → Prop} {σ : gs_S} (h : G_M_rule_0 l v n post σ) : gM l v lyM 33 me_M_rule (n + 1) [.ref (v.2.2 0)] σ (qI v lyM 33 post) := gM_of (by decide +kernel) (Nat.le_of_ble_eq_true rfl) h
/-! LineRulesModel.set -/
theorem d_M_set_0 : decode me_M_set.2.1 0 = .ok (.aload_n 0, 1) := by decide +kernel
theorem d_M_set_1 : decode me_M_set.2.1 1 = .ok (.getfield 179, 3) := by decide +kernel
theorem d_M_set_4 : decode me_M_set.2.1 4 = .ok (.ifCond .eq 27, 3) := by decide +kernel
theorem d_M_set_7 : decode me_M_set.2.1 7 = .ok (.iload_n 1, 1) := by decide +kernel
theorem d_M_set_8 : decode me_M_set.2.1 8 = .ok (.ifCond .lt 23, 3) := by decide +kernel
theorem d_M_set_11 : decode me_M_set.2.1 11 = .ok (.iload_n 1, 1) := by decide +kernel
theorem d_M_set_12 : decode me_M_set.2.1 12 = .ok (.aload_n 0, 1) := by decide +kernel
theorem d_M_set_13 : decode me_M_set.2.1 13 = .ok (.getfield 16, 3) := by decide +kernel
theorem d_M_set_16 : decode me_M_set.2.1 16 = .ok (.if_icmp .ge 15, 3) := by decide +kernel
theorem d_M_set_19 : decode me_M_set.2.1 19 = .ok (.iload_n 2, 1) := by decide +kernel
theorem d_M_set_20 : decode me_M_set.2.1 20 = .ok (.ifCond .lt 11, 3) := by decide +kernel
theorem d_M_set_23 : decode me_M_set.2.1 23 = .ok (.iload_n 2, 1) := by decide +kernel
theorem d_M_set_24 : decode me_M_set.2.1 24 = .ok (.aload_n 0, 1) := by decide +kernel
theorem d_M_set_25 : decode me_M_set.2.1 25 = .ok (.getfield 179, 3) := by decide +kernel
theorem d_M_set_28 : decode me_M_set.2.1 28 = .ok (.if_icmp .lt 5, 3) := by decide +kernel
theorem d_M_set_31 : decode me_M_set.2.1 31 = .ok (.iconst (-1), 1) := by decide +kernel
theorem d_M_set_32 : decode me_M_set.2.1 32 = .ok (.ireturn, 1) := by decide +kernel
theorem d_M_set_33 : decode me_M_set.2.1 33 = .ok (.aload_n 0, 1) := by decide +kernel
theorem d_M_set_34 : decode me_M_set.2.1 34 = .ok (.getfield 20, 3) := by decide +kernel
theorem d_M_set_37 : decode me_M_set.2.1 37 = .ok (.iload_n 1, 1) := by decide +kernel
theorem d_M_set_38 : decode me_M_set.2.1 38 = .ok (.iaload, 1) := by decide +kernel
theorem d_M_set_39 : decode me_M_set.2.1 39 = .ok (.istore_n 3, 1) := by decide +kernel
theorem d_M_set_40 : decode me_M_set.2.1 40 = .ok (.aload_n 0, 1) := by decide +kernel
theorem d_M_set_41 : decode me_M_set.2.1 41 = .ok (.getfield 20, 3) := by decide +kernel
theorem d_M_set_44 : decode me_M_set.2.1 44 = .ok (.iload_n 1, 1) := by decide +kernel
theorem d_M_set_45 : decode me_M_set.2.1 45 = .ok (.iload_n 2, 1) := by decide +kernel
theorem d_M_set_46 : decode me_M_set.2.1 46 = .ok (.iastore, 1) := by decide +kernel
theorem d_M_set_47 : decode me_M_set.2.1 47 = .ok (.aload_n 0, 1) := by decide +kernel
theorem d_M_set_48 : decode me_M_set.2.1 48 = .ok (.iconst 0, 1) := by decide +kernel
theorem d_M_set_49 : decode me_M_set.2.1 49 = .ok (.putfield 210, 3) := by decide +kernel
theorem d_M_set_52 : decode me_M_set.2.1 52 = .ok (.iload_n 3, 1) := by decide +kernel
theorem d_M_set_53 : decode me_M_set.2.1 53 = .ok (.ireturn, 1) := by decide +kernel
abbrev G_M_set_0 (l : Launch) (v : gs_V) (n : Nat) (post : Int32 → gs_S → Prop) (σ : gs_S) (x1 : Int32) (x2 : Int32) : Prop := gG l v lyM 33 me_M_set n (qI v lyM 33 post) 0 [(0, .ref (v.2.2 0)), (1, .int x1), (2, .int x2)] [] σ
abbrev G_M_set_31 (l : Launch) (v : gs_V) (n : Nat) (post : Int32 → gs_S → Prop) (σ : gs_S) : Prop := gG l v lyM 33 me_M_set n (qI v lyM 33 post) 31 [] [] σ
set_option maxRecDepth 20000 in
set_option maxHeartbeats 1000000 in
theorem T_M_set_0 {l : Launch} {v : gs_V} {n : Nat} {post : Int32 → gs_S → Prop} {σ : gs_S} {x1 : Int32} {x2 : Int32} (h : (((σ.1 0 2) = 0 → G_M_set_31 l v n post σ) ∧ (¬ (σ.1 0 2) = 0 → ((x1 < 0 → G_M_set_31 l v n post σ) ∧ (¬ x1 < 0 → (((σ.1 0 7) ≤ x1 → G_M_set_31 l v n post σ) ∧ (¬ (σ.1 0 7) ≤ x1 → ((x2 < 0 → G_M_set_31 l v n post σ) ∧ (¬ x2 < 0 → ((x2 < (σ.1 0 2) → vp_in x1 64 ∧ vp_in x1 64 ∧ post (σ.1 3 x1.toNatClampNeg) (gs_pI (gs_pI σ 3 x1.toNatClampNeg x2) 0 47 0)) ∧ (¬ x2 < (σ.1 0 2) → G_M_set_31 l v n post σ))))))))))) : G_M_set_0 l v n post σ x1 x2 := by
  refine g_aload_n d_M_set_0 0 rfl rfl ?_
  refine g_getV (x := .int (σ.1 0 2)) d_M_set_1 fl_M_179 (by decide) rfl rfl rfl ?_
  refine g_if_eq (tgt := 31) d_M_set_4 rfl (fun hc => ?_) (fun hc => ?_)
  · have h := h.1 hc
    exact g_sub [] rfl h
  · have h := h.2 hc
    refine g_iload_n d_M_set_7 1 rfl rfl ?_
    refine g_if_lt (tgt := 31) d_M_set_8 rfl (fun hc => ?_) (fun hc => ?_)
    · have h := h.1 hc
      exact g_sub [] rfl h
    · have h := h.2 hc
      refine g_iload_n d_M_set_11 1 rfl rfl ?_
      refine g_aload_n d_M_set_12 0 rfl rfl ?_
      refine g_getV (x := .int (σ.1 0 7)) d_M_set_13 fl_M_16 (by decide) rfl rfl rfl ?_
      refine g_icmp_ge (tgt := 31) d_M_set_16 rfl (fun hc => ?_) (fun hc => ?_)
      · have h := h.1 hc
        exact g_sub [] rfl h
      · have h := h.2 hc
        refine g_iload_n d_M_set_19 2 rfl rfl ?_
        refine g_if_lt (tgt := 31) d_M_set_20 rfl (fun hc => ?_) (fun hc => ?_)
        · have h := h.1 hc
          exact g_sub [] rfl h
        · have h := h.2 hc
          refine g_iload_n d_M_set_23 2 rfl rfl ?_
          refine g_aload_n d_M_set_24 0 rfl rfl ?_
          refine g_getV (x := .int (σ.1 0 2)) d_M_set_25 fl_M_179 (by decide) rfl rfl rfl ?_
          refine g_icmp_lt (tgt := 33) d_M_set_28 rfl (fun hc => ?_) (fun hc => ?_)
          · have h := h.1 hc
            refine g_aload_n d_M_set_33 0 rfl rfl ?_
            refine g_getV (x := .ref (v.2.2 3)) d_M_set_34 fl_M_20 (by decide) rfl rfl rfl ?_
            refine g_iload_n d_M_set_37 1 rfl rfl ?_
            have hi1 := h.1
            have h := h.2
            refine g_iald (x := σ.1 3 x1.toNatClampNeg) d_M_set_38 (by decide) rfl hi1 rfl ?_
            refine g_istore_n (L' := [(3, .int (σ.1 3 x1.toNatClampNeg)), (0, .ref (v.2.2 0)), (1, .int x1), (2, .int x2)]) d_M_set_39 rfl (by decide) rfl ?_
            refine g_aload_n d_M_set_40 1 rfl rfl ?_
            refine g_getV (x := .ref (v.2.2 3)) d_M_set_41 fl_M_20 (by decide) rfl rfl rfl ?_
            refine g_iload_n d_M_set_44 2 rfl rfl ?_
            refine g_iload_n d_M_set_45 3 rfl rfl ?_
            have hi2 := h.1
            have h := h.2
            refine g_iast d_M_set_46 (by decide) rfl hi2 ?_
            refine g_aload_n d_M_set_47 1 rfl rfl ?_
            refine g_iconst d_M_set_48 (x := 0) (by decide) ?_
            refine g_putI d_M_set_49 fp_M_210 (by decide) rfl rfl ⟨rfl, rfl⟩ ?_
            refine g_iload_n d_M_set_52 0 rfl rfl ?_
            exact g_iret d_M_set_53 rfl h
          · have h := h.2 hc
            exact g_sub [] rfl h
set_option maxRecDepth 20000 in
set_option maxHeartbeats 1000000 in
theorem T_M_set_31 {l : Launch} {v : gs_V} {n : Nat} {post : Int32 → gs_S → Prop} {σ : gs_S} (h : post ((-1)) σ) : G_M_set_31 l v n post σ := by
  refine g_iconst d_M_set_31 (x := (-1)) (by decide) ?_
  exact g_iret d_M_set_32 rfl h
theorem E_M_set {l : Launch} {v : gs_V} {n : Nat} {post : Int32 → gs_S → Prop} {σ : gs_S} {x1 : Int32} {x2 : Int32} (h : G_M_set_0 l v n post σ x1 x2) : gM l v lyM 33 me_M_set (n + 1) [.ref (v.2.2 0), .int x1, .int x2] σ (qI v lyM 33 post) := gM_of (by decide +kernel) (Nat.le_of_ble_eq_true rfl) h
/-! LineRulesModel.step -/
theorem d_M_step_0 : decode me_M_step.2.1 0 = .ok (.aload_n 0, 1) := by decide +kernel
theorem d_M_step_1 : decode me_M_step.2.1 1 = .ok (.getfield 179, 3) := by decide +kernel
theorem d_M_step_4 : decode me_M_step.2.1 4 = .ok (.ifCond .eq 14, 3) := by decide +kernel
theorem d_M_step_7 : decode me_M_step.2.1 7 = .ok (.iload_n 1, 1) := by decide +kernel
theorem d_M_step_8 : decode me_M_step.2.1 8 = .ok (.ifCond .lt 10, 3) := by decide +kernel
theorem d_M_step_11 : decode me_M_step.2.1 11 = .ok (.iload_n 1, 1) := by decide +kernel
theorem d_M_step_12 : decode me_M_step.2.1 12 = .ok (.sipush 200, 3) := by decide +kernel
theorem d_M_step_15 : decode me_M_step.2.1 15 = .ok (.if_icmp .le 5, 3) := by decide +kernel
theorem d_M_step_18 : decode me_M_step.2.1 18 = .ok (.iconst (-1), 1) := by decide +kernel
theorem d_M_step_19 : decode me_M_step.2.1 19 = .ok (.ireturn, 1) := by decide +kernel
theorem d_M_step_20 : decode me_M_step.2.1 20 = .ok (.iconst 0, 1) := by decide +kernel
theorem d_M_step_21 : decode me_M_step.2.1 21 = .ok (.istore_n 2, 1) := by decide +kernel
theorem d_M_step_22 : decode me_M_step.2.1 22 = .ok (.iload_n 2, 1) := by decide +kernel
theorem d_M_step_23 : decode me_M_step.2.1 23 = .ok (.aload_n 0, 1) := by decide +kernel
theorem d_M_step_24 : decode me_M_step.2.1 24 = .ok (.getfield 16, 3) := by decide +kernel
theorem d_M_step_27 : decode me_M_step.2.1 27 = .ok (.if_icmp .ge 21, 3) := by decide +kernel
theorem d_M_step_30 : decode me_M_step.2.1 30 = .ok (.aload_n 0, 1) := by decide +kernel
theorem d_M_step_31 : decode me_M_step.2.1 31 = .ok (.getfield 100, 3) := by decide +kernel
theorem d_M_step_34 : decode me_M_step.2.1 34 = .ok (.iload_n 2, 1) := by decide +kernel
theorem d_M_step_35 : decode me_M_step.2.1 35 = .ok (.aload_n 0, 1) := by decide +kernel
theorem d_M_step_36 : decode me_M_step.2.1 36 = .ok (.getfield 20, 3) := by decide +kernel
theorem d_M_step_39 : decode me_M_step.2.1 39 = .ok (.iload_n 2, 1) := by decide +kernel
theorem d_M_step_40 : decode me_M_step.2.1 40 = .ok (.iaload, 1) := by decide +kernel
theorem d_M_step_41 : decode me_M_step.2.1 41 = .ok (.iastore, 1) := by decide +kernel
theorem d_M_step_42 : decode me_M_step.2.1 42 = .ok (.iinc 2 1, 3) := by decide +kernel
theorem d_M_step_45 : decode me_M_step.2.1 45 = .ok (.goto (-23), 3) := by decide +kernel
theorem d_M_step_48 : decode me_M_step.2.1 48 = .ok (.iconst 0, 1) := by decide +kernel
theorem d_M_step_49 : decode me_M_step.2.1 49 = .ok (.istore_n 2, 1) := by decide +kernel
theorem d_M_step_50 : decode me_M_step.2.1 50 = .ok (.iload_n 2, 1) := by decide +kernel
theorem d_M_step_51 : decode me_M_step.2.1 51 = .ok (.iload_n 1, 1) := by decide +kernel
theorem d_M_step_52 : decode me_M_step.2.1 52 = .ok (.if_icmp .ge 13, 3) := by decide +kernel
theorem d_M_step_55 : decode me_M_step.2.1 55 = .ok (.aload_n 0, 1) := by decide +kernel
theorem d_M_step_56 : decode me_M_step.2.1 56 = .ok (.invokevirtual 213, 3) := by decide +kernel
theorem d_M_step_59 : decode me_M_step.2.1 59 = .ok (.iinc 2 1, 3) := by decide +kernel
theorem d_M_step_62 : decode me_M_step.2.1 62 = .ok (.goto (-12), 3) := by decide +kernel
theorem d_M_step_65 : decode me_M_step.2.1 65 = .ok (.iconst 0, 1) := by decide +kernel
theorem d_M_step_66 : decode me_M_step.2.1 66 = .ok (.istore_n 2, 1) := by decide +kernel
theorem d_M_step_67 : decode me_M_step.2.1 67 = .ok (.iconst 0, 1) := by decide +kernel
theorem d_M_step_68 : decode me_M_step.2.1 68 = .ok (.istore_n 3, 1) := by decide +kernel
theorem d_M_step_69 : decode me_M_step.2.1 69 = .ok (.iload_n 3, 1) := by decide +kernel
theorem d_M_step_70 : decode me_M_step.2.1 70 = .ok (.aload_n 0, 1) := by decide +kernel
theorem d_M_step_71 : decode me_M_step.2.1 71 = .ok (.getfield 16, 3) := by decide +kernel
theorem d_M_step_74 : decode me_M_step.2.1 74 = .ok (.if_icmp .ge 32, 3) := by decide +kernel
theorem d_M_step_77 : decode me_M_step.2.1 77 = .ok (.aload_n 0, 1) := by decide +kernel
theorem d_M_step_78 : decode me_M_step.2.1 78 = .ok (.getfield 20, 3) := by decide +kernel
theorem d_M_step_81 : decode me_M_step.2.1 81 = .ok (.iload_n 3, 1) := by decide +kernel
theorem d_M_step_82 : decode me_M_step.2.1 82 = .ok (.iaload, 1) := by decide +kernel
theorem d_M_step_83 : decode me_M_step.2.1 83 = .ok (.aload_n 0, 1) := by decide +kernel
theorem d_M_step_84 : decode me_M_step.2.1 84 = .ok (.getfield 100, 3) := by decide +kernel
theorem d_M_step_87 : decode me_M_step.2.1 87 = .ok (.iload_n 3, 1) := by decide +kernel
theorem d_M_step_88 : decode me_M_step.2.1 88 = .ok (.iaload, 1) := by decide +kernel
theorem d_M_step_89 : decode me_M_step.2.1 89 = .ok (.if_icmp .ne 7, 3) := by decide +kernel
theorem d_M_step_92 : decode me_M_step.2.1 92 = .ok (.iload_n 2, 1) := by decide +kernel
theorem d_M_step_93 : decode me_M_step.2.1 93 = .ok (.goto 6, 3) := by decide +kernel
theorem d_M_step_96 : decode me_M_step.2.1 96 = .ok (.iload_n 2, 1) := by decide +kernel
theorem d_M_step_97 : decode me_M_step.2.1 97 = .ok (.iconst 1, 1) := by decide +kernel
theorem d_M_step_98 : decode me_M_step.2.1 98 = .ok (.iadd, 1) := by decide +kernel
theorem d_M_step_99 : decode me_M_step.2.1 99 = .ok (.istore_n 2, 1) := by decide +kernel
theorem d_M_step_100 : decode me_M_step.2.1 100 = .ok (.iinc 3 1, 3) := by decide +kernel
theorem d_M_step_103 : decode me_M_step.2.1 103 = .ok (.goto (-34), 3) := by decide +kernel
theorem d_M_step_106 : decode me_M_step.2.1 106 = .ok (.aload_n 0, 1) := by decide +kernel
theorem d_M_step_107 : decode me_M_step.2.1 107 = .ok (.iconst 0, 1) := by decide +kernel
theorem d_M_step_108 : decode me_M_step.2.1 108 = .ok (.putfield 210, 3) := by decide +kernel
theorem d_M_step_111 : decode me_M_step.2.1 111 = .ok (.iload_n 2, 1) := by decide +kernel
theorem d_M_step_112 : decode me_M_step.2.1 112 = .ok (.ireturn, 1) := by decide +kernel
abbrev G_M_step_0 (l : Launch) (v : gs_V) (n : Nat) (post : Int32 → gs_S → Prop) (σ : gs_S) (x1 : Int32) : Prop := gG l v lyM 33 me_M_step n (qI v lyM 33 post) 0 [(0, .ref (v.2.2 0)), (1, .int x1)] [] σ
abbrev G_M_step_18 (l : Launch) (v : gs_V) (n : Nat) (post : Int32 → gs_S → Prop) (σ : gs_S) : Prop := gG l v lyM 33 me_M_step n (qI v lyM 33 post) 18 [] [] σ
abbrev G_M_step_22 (l : Launch) (v : gs_V) (n : Nat) (post : Int32 → gs_S → Prop) (σ : gs_S) (x1 : Int32) (x2 : Int32) : Prop := gG l v lyM 33 me_M_step n (qI v lyM 33 post) 22 [(0, .ref (v.2.2 0)), (1, .int x1), (2, .int x2)] [] σ
abbrev G_M_step_50 (l : Launch) (v : gs_V) (n : Nat) (post : Int32 → gs_S → Prop) (σ : gs_S) (x1 : Int32) (x2 : Int32) : Prop := gG l v lyM 33 me_M_step n (qI v lyM 33 post) 50 [(0, .ref (v.2.2 0)), (1, .int x1), (2, .int x2)] [] σ
abbrev G_M_step_69 (l : Launch) (v : gs_V) (n : Nat) (post : Int32 → gs_S → Prop) (σ : gs_S) (x2 : Int32) (x3 : Int32) : Prop := gG l v lyM 33 me_M_step n (qI v lyM 33 post) 69 [(0, .ref (v.2.2 0)), (2, .int x2), (3, .int x3)] [] σ
abbrev G_M_step_99 (l : Launch) (v : gs_V) (n : Nat) (post : Int32 → gs_S → Prop) (σ : gs_S) (x3 : Int32) (s0 : Int32) : Prop := gG l v lyM 33 me_M_step n (qI v lyM 33 post) 99 [(0, .ref (v.2.2 0)), (3, .int x3)] [.int s0] σ
set_option maxRecDepth 20000 in
set_option maxHeartbeats 1000000 in
theorem T_M_step_0 {l : Launch} {v : gs_V} {n : Nat} {post : Int32 → gs_S → Prop} {σ : gs_S} {x1 : Int32} (h : (((σ.1 0 2) = 0 → G_M_step_18 l v n post σ) ∧ (¬ (σ.1 0 2) = 0 → ((x1 < 0 → G_M_step_18 l v n post σ) ∧ (¬ x1 < 0 → ((x1 ≤ 200 → G_M_step_22 l v n post σ x1 0) ∧ (¬ x1 ≤ 200 → G_M_step_18 l v n post σ))))))) : G_M_step_0 l v n post σ x1 := by
  refine g_aload_n d_M_step_0 0 rfl rfl ?_
  refine g_getV (x := .int (σ.1 0 2)) d_M_step_1 fl_M_179 (by decide) rfl rfl rfl ?_
  refine g_if_eq (tgt := 18) d_M_step_4 rfl (fun hc => ?_) (fun hc => ?_)
  · have h := h.1 hc
    exact g_sub [] rfl h
  · have h := h.2 hc
    refine g_iload_n d_M_step_7 1 rfl rfl ?_
    refine g_if_lt (tgt := 18) d_M_step_8 rfl (fun hc => ?_) (fun hc => ?_)
    · have h := h.1 hc
      exact g_sub [] rfl h
    · have h := h.2 hc
      refine g_iload_n d_M_step_11 1 rfl rfl ?_
      refine g_sipush d_M_step_12 (x := 200) (by decide) ?_
      refine g_icmp_le (tgt := 20) d_M_step_15 rfl (fun hc => ?_) (fun hc => ?_)
      · have h := h.1 hc
        refine g_iconst d_M_step_20 (x := 0) (by decide) ?_
        refine g_istore_n (L' := [(2, .int 0), (0, .ref (v.2.2 0)), (1, .int x1)]) d_M_step_21 rfl (by decide) rfl ?_
        exact g_sub [1, 2, 0] rfl h
      · have h := h.2 hc
        exact g_sub [] rfl h
set_option maxRecDepth 20000 in
set_option maxHeartbeats 1000000 in
theorem T_M_step_18 {l : Launch} {v : gs_V} {n : Nat} {post : Int32 → gs_S → Prop} {σ : gs_S} (h : post ((-1)) σ) : G_M_step_18 l v n post σ := by
  refine g_iconst d_M_step_18 (x := (-1)) (by decide) ?_
  exact g_iret d_M_step_19 rfl h
set_option maxRecDepth 20000 in
set_option maxHeartbeats 1000000 in
theorem T_M_step_22 {l : Launch} {v : gs_V} {n : Nat} {post : Int32 → gs_S → Prop} {σ : gs_S} {x1 : Int32} {x2 : Int32} (h : (((σ.1 0 7) ≤ x2 → G_M_step_50 l v n post σ x1 0) ∧ (¬ (σ.1 0 7) ≤ x2 → vp_in x2 64 ∧ vp_in x2 68 ∧ G_M_step_22 l v n post (gs_pI σ 29 x2.toNatClampNeg (σ.1 3 x2.toNatClampNeg)) x1 (x2 + 1)))) : G_M_step_22 l v n post σ x1 x2 := by
  refine g_iload_n d_M_step_22 2 rfl rfl ?_
  refine g_aload_n d_M_step_23 0 rfl rfl ?_
  refine g_getV (x := .int (σ.1 0 7)) d_M_step_24 fl_M_16 (by decide) rfl rfl rfl ?_
  refine g_icmp_ge (tgt := 48) d_M_step_27 rfl (fun hc => ?_) (fun hc => ?_)
  · have h := h.1 hc
    refine g_iconst d_M_step_48 (x := 0) (by decide) ?_
    refine g_istore_n (L' := [(2, .int 0), (0, .ref (v.2.2 0)), (1, .int x1)]) d_M_step_49 rfl (by decide) rfl ?_
    exact g_sub [1, 2, 0] rfl h
  · have h := h.2 hc
    refine g_aload_n d_M_step_30 0 rfl rfl ?_
    refine g_getV (x := .ref (v.2.2 29)) d_M_step_31 fl_M_100 (by decide) rfl rfl rfl ?_
    refine g_iload_n d_M_step_34 2 rfl rfl ?_
    refine g_aload_n d_M_step_35 0 rfl rfl ?_
    refine g_getV (x := .ref (v.2.2 3)) d_M_step_36 fl_M_20 (by decide) rfl rfl rfl ?_
    refine g_iload_n d_M_step_39 2 rfl rfl ?_
    have hi1 := h.1
    have h := h.2
    refine g_iald (x := σ.1 3 x2.toNatClampNeg) d_M_step_40 (by decide) rfl hi1 rfl ?_
    have hi2 := h.1
    have h := h.2
    refine g_iast d_M_step_41 (by decide) rfl hi2 ?_
    refine g_iinc (L' := [(2, .int (x2 + 1)), (0, .ref (v.2.2 0)), (1, .int x1)]) d_M_step_42 2 rfl (by rfl) (by decide) rfl ?_
    refine g_goto (tgt := 22) d_M_step_45 rfl ?_
    exact g_sub [1, 2, 0] rfl h
set_option maxRecDepth 20000 in
set_option maxHeartbeats 1000000 in
theorem T_M_step_50 {l : Launch} {v : gs_V} {n : Nat} {post : Int32 → gs_S → Prop} {σ : gs_S} {x1 : Int32} {x2 : Int32} (h : ((x1 ≤ x2 → G_M_step_69 l v n post σ 0 0) ∧ (¬ x1 ≤ x2 → gM l v lyM 33 me_M_turn n [.ref (v.2.2 0)] σ (qV v lyM 33 (fun σ1 => G_M_step_50 l v n post σ1 x1 (x2 + 1)))))) : G_M_step_50 l v n post σ x1 x2 := by
  refine g_iload_n d_M_step_50 2 rfl rfl ?_
  refine g_iload_n d_M_step_51 1 rfl rfl ?_
  refine g_icmp_ge (tgt := 65) d_M_step_52 rfl (fun hc => ?_) (fun hc => ?_)
  · have h := h.1 hc
    refine g_iconst d_M_step_65 (x := 0) (by decide) ?_
    refine g_istore_n (L' := [(2, .int 0), (0, .ref (v.2.2 0)), (1, .int x1)]) d_M_step_66 rfl (by decide) rfl ?_
    refine g_iconst d_M_step_67 (x := 0) (by decide) ?_
    refine g_istore_n (L' := [(3, .int 0), (2, .int 0), (0, .ref (v.2.2 0)), (1, .int x1)]) d_M_step_68 rfl (by decide) rfl ?_
    exact g_sub [2, 1, 0] rfl h
  · have h := h.2 hc
    refine g_aload_n d_M_step_55 0 rfl rfl ?_
    refine g_callVv (av := []) (rest := []) d_M_step_56 Y_M_turn lk_M_213 (by decide) rfl rfl I_M_turn rfl (Nat.le_of_ble_eq_true rfl) rfl h (fun σ1 h => ?_)
    refine g_iinc (L' := [(2, .int (x2 + 1)), (0, .ref (v.2.2 0)), (1, .int x1)]) d_M_step_59 2 rfl (by rfl) (by decide) rfl ?_
    refine g_goto (tgt := 50) d_M_step_62 rfl ?_
    exact g_sub [1, 2, 0] rfl h
set_option maxRecDepth 20000 in
set_option maxHeartbeats 1000000 in
theorem T_M_step_69 {l : Launch} {v : gs_V} {n : Nat} {post : Int32 → gs_S → Prop} {σ : gs_S} {x2 : Int32} {x3 : Int32} (h : (((σ.1 0 7) ≤ x3 → post x2 (gs_pI σ 0 47 0)) ∧ (¬ (σ.1 0 7) ≤ x3 → vp_in x3 64 ∧ vp_in x3 68 ∧ ((¬ (σ.1 3 x3.toNatClampNeg) = (σ.1 29 x3.toNatClampNeg) → G_M_step_99 l v n post σ x3 (x2 + 1)) ∧ ((σ.1 3 x3.toNatClampNeg) = (σ.1 29 x3.toNatClampNeg) → G_M_step_99 l v n post σ x3 x2))))) : G_M_step_69 l v n post σ x2 x3 := by
  refine g_iload_n d_M_step_69 2 rfl rfl ?_
  refine g_aload_n d_M_step_70 0 rfl rfl ?_
  refine g_getV (x := .int (σ.1 0 7)) d_M_step_71 fl_M_16 (by decide) rfl rfl rfl ?_
  refine g_icmp_ge (tgt := 106) d_M_step_74 rfl (fun hc => ?_) (fun hc => ?_)
  · have h := h.1 hc
    refine g_aload_n d_M_step_106 0 rfl rfl ?_
    refine g_iconst d_M_step_107 (x := 0) (by decide) ?_
    refine g_putI d_M_step_108 fp_M_210 (by decide) rfl rfl ⟨rfl, rfl⟩ ?_
    refine g_iload_n d_M_step_111 1 rfl rfl ?_
    exact g_iret d_M_step_112 rfl h
  · have h := h.2 hc
    refine g_aload_n d_M_step_77 0 rfl rfl ?_
    refine g_getV (x := .ref (v.2.2 3)) d_M_step_78 fl_M_20 (by decide) rfl rfl rfl ?_
    refine g_iload_n d_M_step_81 2 rfl rfl ?_
    have hi1 := h.1
    have h := h.2
    refine g_iald (x := σ.1 3 x3.toNatClampNeg) d_M_step_82 (by decide) rfl hi1 rfl ?_
    refine g_aload_n d_M_step_83 0 rfl rfl ?_
    refine g_getV (x := .ref (v.2.2 29)) d_M_step_84 fl_M_100 (by decide) rfl rfl rfl ?_
    refine g_iload_n d_M_step_87 2 rfl rfl ?_
    have hi2 := h.1
    have h := h.2
    refine g_iald (x := σ.1 29 x3.toNatClampNeg) d_M_step_88 (by decide) rfl hi2 rfl ?_
    refine g_icmp_ne (tgt := 96) d_M_step_89 rfl (fun hc => ?_) (fun hc => ?_)
    · have h := h.1 hc
      refine g_iload_n d_M_step_96 1 rfl rfl ?_
      refine g_iconst d_M_step_97 (x := 1) (by decide) ?_
      refine g_iadd d_M_step_98 ?_
      exact g_sub [0, 2] rfl h
    · have h := h.2 hc
      refine g_iload_n d_M_step_92 1 rfl rfl ?_
      refine g_goto (tgt := 99) d_M_step_93 rfl ?_
      exact g_sub [0, 2] rfl h
set_option maxRecDepth 20000 in
set_option maxHeartbeats 1000000 in
theorem T_M_step_99 {l : Launch} {v : gs_V} {n : Nat} {post : Int32 → gs_S → Prop} {σ : gs_S} {x3 : Int32} {s0 : Int32} (h : G_M_step_69 l v n post σ s0 (x3 + 1)) : G_M_step_99 l v n post σ x3 s0 := by
  refine g_istore_n (L' := [(2, .int s0), (0, .ref (v.2.2 0)), (3, .int x3)]) d_M_step_99 rfl (by decide) rfl ?_
  refine g_iinc (L' := [(3, .int (x3 + 1)), (2, .int s0), (0, .ref (v.2.2 0))]) d_M_step_100 2 rfl (by rfl) (by decide) rfl ?_
  refine g_goto (tgt := 69) d_M_step_103 rfl ?_
  exact g_sub [2, 1, 0] rfl h
theorem E_M_step {l : Launch} {v : gs_V} {n : Nat} {post : Int32 → gs_S → Prop} {σ : gs_S} {x1 : Int32} (h : G_M_step_0 l v n post σ x1) : gM l v lyM 33 me_M_step (n + 1) [.ref (v.2.2 0), .int x1] σ (qI v lyM 33 post) := gM_of (by decide +kernel) (Nat.le_of_ble_eq_true rfl) h
/-! LineRulesModel.surjective -/
theorem d_M_surjective_0 : decode me_M_surjective.2.1 0 = .ok (.aload_n 0, 1) := by decide +kernel
theorem d_M_surjective_1 : decode me_M_surjective.2.1 1 = .ok (.getfield 179, 3) := by decide +kernel
theorem d_M_surjective_4 : decode me_M_surjective.2.1 4 = .ok (.ifCond .ne 5, 3) := by decide +kernel
theorem d_M_surjective_7 : decode me_M_surjective.2.1 7 = .ok (.iconst (-1), 1) := by decide +kernel
theorem d_M_surjective_8 : decode me_M_surjective.2.1 8 = .ok (.ireturn, 1) := by decide +kernel
theorem d_M_surjective_9 : decode me_M_surjective.2.1 9 = .ok (.aload_n 0, 1) := by decide +kernel
theorem d_M_surjective_10 : decode me_M_surjective.2.1 10 = .ok (.getfield 194, 3) := by decide +kernel
theorem d_M_surjective_13 : decode me_M_surjective.2.1 13 = .ok (.ifCond .ne 44, 3) := by decide +kernel
theorem d_M_surjective_16 : decode me_M_surjective.2.1 16 = .ok (.aload_n 0, 1) := by decide +kernel
theorem d_M_surjective_17 : decode me_M_surjective.2.1 17 = .ok (.getfield 182, 3) := by decide +kernel
theorem d_M_surjective_20 : decode me_M_surjective.2.1 20 = .ok (.iconst 1, 1) := by decide +kernel
theorem d_M_surjective_21 : decode me_M_surjective.2.1 21 = .ok (.if_icmp .ne 10, 3) := by decide +kernel
theorem d_M_surjective_24 : decode me_M_surjective.2.1 24 = .ok (.aload_n 0, 1) := by decide +kernel
theorem d_M_surjective_25 : decode me_M_surjective.2.1 25 = .ok (.invokevirtual 223, 3) := by decide +kernel
theorem d_M_surjective_28 : decode me_M_surjective.2.1 28 = .ok (.goto 15, 3) := by decide +kernel
theorem d_M_surjective_31 : decode me_M_surjective.2.1 31 = .ok (.aload_n 0, 1) := by decide +kernel
theorem d_M_surjective_32 : decode me_M_surjective.2.1 32 = .ok (.invokevirtual 227, 3) := by decide +kernel
theorem d_M_surjective_35 : decode me_M_surjective.2.1 35 = .ok (.ifCond .ne 7, 3) := by decide +kernel
theorem d_M_surjective_38 : decode me_M_surjective.2.1 38 = .ok (.iconst 1, 1) := by decide +kernel
theorem d_M_surjective_39 : decode me_M_surjective.2.1 39 = .ok (.goto 4, 3) := by decide +kernel
theorem d_M_surjective_42 : decode me_M_surjective.2.1 42 = .ok (.iconst 0, 1) := by decide +kernel
theorem d_M_surjective_43 : decode me_M_surjective.2.1 43 = .ok (.istore_n 1, 1) := by decide +kernel
theorem d_M_surjective_44 : decode me_M_surjective.2.1 44 = .ok (.aload_n 0, 1) := by decide +kernel
theorem d_M_surjective_45 : decode me_M_surjective.2.1 45 = .ok (.iload_n 1, 1) := by decide +kernel
theorem d_M_surjective_46 : decode me_M_surjective.2.1 46 = .ok (.ifCond .eq 7, 3) := by decide +kernel
theorem d_M_surjective_49 : decode me_M_surjective.2.1 49 = .ok (.iconst 2, 1) := by decide +kernel
theorem d_M_surjective_50 : decode me_M_surjective.2.1 50 = .ok (.goto 4, 3) := by decide +kernel
theorem d_M_surjective_53 : decode me_M_surjective.2.1 53 = .ok (.iconst 1, 1) := by decide +kernel
theorem d_M_surjective_54 : decode me_M_surjective.2.1 54 = .ok (.putfield 194, 3) := by decide +kernel
theorem d_M_surjective_57 : decode me_M_surjective.2.1 57 = .ok (.aload_n 0, 1) := by decide +kernel
theorem d_M_surjective_58 : decode me_M_surjective.2.1 58 = .ok (.getfield 194, 3) := by decide +kernel
theorem d_M_surjective_61 : decode me_M_surjective.2.1 61 = .ok (.iconst 1, 1) := by decide +kernel
theorem d_M_surjective_62 : decode me_M_surjective.2.1 62 = .ok (.isub, 1) := by decide +kernel
theorem d_M_surjective_63 : decode me_M_surjective.2.1 63 = .ok (.ireturn, 1) := by decide +kernel
abbrev G_M_surjective_0 (l : Launch) (v : gs_V) (n : Nat) (post : Int32 → gs_S → Prop) (σ : gs_S) : Prop := gG l v lyM 33 me_M_surjective n (qI v lyM 33 post) 0 [(0, .ref (v.2.2 0))] [] σ
abbrev G_M_surjective_43 (l : Launch) (v : gs_V) (n : Nat) (post : Int32 → gs_S → Prop) (σ : gs_S) (s0 : Int32) : Prop := gG l v lyM 33 me_M_surjective n (qI v lyM 33 post) 43 [(0, .ref (v.2.2 0))] [.int s0] σ
abbrev G_M_surjective_54 (l : Launch) (v : gs_V) (n : Nat) (post : Int32 → gs_S → Prop) (σ : gs_S) (s0 : Int32) : Prop := gG l v lyM 33 me_M_surjective n (qI v lyM 33 post) 54 [(0, .ref (v.2.2 0))] [.int s0, .ref (v.2.2 0)] σ
abbrev G_M_surjective_57 (l : Launch) (v : gs_V) (n : Nat) (post : Int32 → gs_S → Prop) (σ : gs_S) : Prop := gG l v lyM 33 me_M_surjective n (qI v lyM 33 post) 57 [(0, .ref (v.2.2 0))] [] σ
set_option maxRecDepth 20000 in
set_option maxHeartbeats 1000000 in
theorem T_M_surjective_0 {l : Launch} {v : gs_V} {n : Nat} {post : Int32 → gs_S → Prop} {σ : gs_S} (h : ((¬ (σ.1 0 2) = 0 → ((¬ (σ.1 0 28) = 0 → G_M_surjective_57 l v n post σ) ∧ ((σ.1 0 28) = 0 → ((¬ (σ.1 0 3) = 1 → gM l v lyM 33 me_M_losesSomewhere n [.ref (v.2.2 0)] σ (qI v lyM 33 (fun r1 σ1 => ((¬ r1 = 0 → G_M_surjective_43 l v n post σ1 0) ∧ (r1 = 0 → G_M_surjective_43 l v n post σ1 1))))) ∧ ((σ.1 0 3) = 1 → gM l v lyM 33 me_M_makesAll n [.ref (v.2.2 0)] σ (qI v lyM 33 (fun r2 σ2 => G_M_surjective_43 l v n post σ2 r2))))))) ∧ ((σ.1 0 2) = 0 → post ((-1)) σ))) : G_M_surjective_0 l v n post σ := by
  refine g_aload_n d_M_surjective_0 0 rfl rfl ?_
  refine g_getV (x := .int (σ.1 0 2)) d_M_surjective_1 fl_M_179 (by decide) rfl rfl rfl ?_
  refine g_if_ne (tgt := 9) d_M_surjective_4 rfl (fun hc => ?_) (fun hc => ?_)
  · have h := h.1 hc
    refine g_aload_n d_M_surjective_9 0 rfl rfl ?_
    refine g_getV (x := .int (σ.1 0 28)) d_M_surjective_10 fl_M_194 (by decide) rfl rfl rfl ?_
    refine g_if_ne (tgt := 57) d_M_surjective_13 rfl (fun hc => ?_) (fun hc => ?_)
    · have h := h.1 hc
      exact h
    · have h := h.2 hc
      refine g_aload_n d_M_surjective_16 0 rfl rfl ?_
      refine g_getV (x := .int (σ.1 0 3)) d_M_surjective_17 fl_M_182 (by decide) rfl rfl rfl ?_
      refine g_iconst d_M_surjective_20 (x := 1) (by decide) ?_
      refine g_icmp_ne (tgt := 31) d_M_surjective_21 rfl (fun hc => ?_) (fun hc => ?_)
      · have h := h.1 hc
        refine g_aload_n d_M_surjective_31 0 rfl rfl ?_
        refine g_callVi (av := []) (rest := []) d_M_surjective_32 Y_M_losesSomewhere lk_M_227 (by decide) rfl rfl I_M_losesSomewhere rfl (Nat.le_of_ble_eq_true rfl) rfl h (fun r1 σ1 h => ?_)
        refine g_if_ne (tgt := 42) d_M_surjective_35 rfl (fun hc => ?_) (fun hc => ?_)
        · have h := h.1 hc
          refine g_iconst d_M_surjective_42 (x := 0) (by decide) ?_
          exact h
        · have h := h.2 hc
          refine g_iconst d_M_surjective_38 (x := 1) (by decide) ?_
          refine g_goto (tgt := 43) d_M_surjective_39 rfl ?_
          exact h
      · have h := h.2 hc
        refine g_aload_n d_M_surjective_24 0 rfl rfl ?_
        refine g_callVi (av := []) (rest := []) d_M_surjective_25 Y_M_makesAll lk_M_223 (by decide) rfl rfl I_M_makesAll rfl (Nat.le_of_ble_eq_true rfl) rfl h (fun r2 σ2 h => ?_)
        refine g_goto (tgt := 43) d_M_surjective_28 rfl ?_
        exact h
  · have h := h.2 hc
    refine g_iconst d_M_surjective_7 (x := (-1)) (by decide) ?_
    exact g_iret d_M_surjective_8 rfl h
set_option maxRecDepth 20000 in
set_option maxHeartbeats 1000000 in
theorem T_M_surjective_43 {l : Launch} {v : gs_V} {n : Nat} {post : Int32 → gs_S → Prop} {σ : gs_S} {s0 : Int32} (h : ((s0 = 0 → G_M_surjective_54 l v n post σ 1) ∧ (¬ s0 = 0 → G_M_surjective_54 l v n post σ 2))) : G_M_surjective_43 l v n post σ s0 := by
  refine g_istore_n (L' := [(1, .int s0), (0, .ref (v.2.2 0))]) d_M_surjective_43 rfl (by decide) rfl ?_
  refine g_aload_n d_M_surjective_44 1 rfl rfl ?_
  refine g_iload_n d_M_surjective_45 0 rfl rfl ?_
  refine g_if_eq (tgt := 53) d_M_surjective_46 rfl (fun hc => ?_) (fun hc => ?_)
  · have h := h.1 hc
    refine g_iconst d_M_surjective_53 (x := 1) (by decide) ?_
    exact g_sub [1] rfl h
  · have h := h.2 hc
    refine g_iconst d_M_surjective_49 (x := 2) (by decide) ?_
    refine g_goto (tgt := 54) d_M_surjective_50 rfl ?_
    exact g_sub [1] rfl h
set_option maxRecDepth 20000 in
set_option maxHeartbeats 1000000 in
theorem T_M_surjective_54 {l : Launch} {v : gs_V} {n : Nat} {post : Int32 → gs_S → Prop} {σ : gs_S} {s0 : Int32} (h : G_M_surjective_57 l v n post (gs_pI σ 0 28 s0)) : G_M_surjective_54 l v n post σ s0 := by
  refine g_putI d_M_surjective_54 fp_M_194 (by decide) rfl rfl ⟨rfl, rfl⟩ ?_
  exact h
set_option maxRecDepth 20000 in
set_option maxHeartbeats 1000000 in
theorem T_M_surjective_57 {l : Launch} {v : gs_V} {n : Nat} {post : Int32 → gs_S → Prop} {σ : gs_S} (h : post ((σ.1 0 28) - 1) σ) : G_M_surjective_57 l v n post σ := by
  refine g_aload_n d_M_surjective_57 0 rfl rfl ?_
  refine g_getV (x := .int (σ.1 0 28)) d_M_surjective_58 fl_M_194 (by decide) rfl rfl rfl ?_
  refine g_iconst d_M_surjective_61 (x := 1) (by decide) ?_
  refine g_isub d_M_surjective_62 ?_
  exact g_iret d_M_surjective_63 rfl h
theorem E_M_surjective {l : Launch} {v : gs_V} {n : Nat} {post : Int32 → gs_S → Prop} {σ : gs_S} (h : G_M_surjective_0 l v n post σ) : gM l v lyM 33 me_M_surjective (n + 1) [.ref (v.2.2 0)] σ (qI v lyM 33 post) := gM_of (by decide +kernel) (Nat.le_of_ble_eq_true rfl) h
/-! LineRulesModel.undo -/
theorem d_M_undo_0 : decode me_M_undo.2.1 0 = .ok (.aload_n 0, 1) := by decide +kernel
theorem d_M_undo_1 : decode me_M_undo.2.1 1 = .ok (.getfield 179, 3) := by decide +kernel
theorem d_M_undo_4 : decode me_M_undo.2.1 4 = .ok (.ifCond .ne 5, 3) := by decide +kernel
theorem d_M_undo_7 : decode me_M_undo.2.1 7 = .ok (.iconst (-1), 1) := by decide +kernel
theorem d_M_undo_8 : decode me_M_undo.2.1 8 = .ok (.ireturn, 1) := by decide +kernel
theorem d_M_undo_9 : decode me_M_undo.2.1 9 = .ok (.aload_n 0, 1) := by decide +kernel
theorem d_M_undo_10 : decode me_M_undo.2.1 10 = .ok (.invokevirtual 245, 3) := by decide +kernel
theorem d_M_undo_13 : decode me_M_undo.2.1 13 = .ok (.aload_n 0, 1) := by decide +kernel
theorem d_M_undo_14 : decode me_M_undo.2.1 14 = .ok (.getfield 236, 3) := by decide +kernel
theorem d_M_undo_17 : decode me_M_undo.2.1 17 = .ok (.ifCond .le 31, 3) := by decide +kernel
theorem d_M_undo_20 : decode me_M_undo.2.1 20 = .ok (.iload_n 1, 1) := by decide +kernel
theorem d_M_undo_21 : decode me_M_undo.2.1 21 = .ok (.ifCond .lt 27, 3) := by decide +kernel
theorem d_M_undo_24 : decode me_M_undo.2.1 24 = .ok (.iload_n 1, 1) := by decide +kernel
theorem d_M_undo_25 : decode me_M_undo.2.1 25 = .ok (.aload_n 0, 1) := by decide +kernel
theorem d_M_undo_26 : decode me_M_undo.2.1 26 = .ok (.getfield 179, 3) := by decide +kernel
theorem d_M_undo_29 : decode me_M_undo.2.1 29 = .ok (.aload_n 0, 1) := by decide +kernel
theorem d_M_undo_30 : decode me_M_undo.2.1 30 = .ok (.getfield 236, 3) := by decide +kernel
theorem d_M_undo_33 : decode me_M_undo.2.1 33 = .ok (.invokestatic 147, 3) := by decide +kernel
theorem d_M_undo_36 : decode me_M_undo.2.1 36 = .ok (.if_icmp .ge 12, 3) := by decide +kernel
theorem d_M_undo_39 : decode me_M_undo.2.1 39 = .ok (.aload_n 0, 1) := by decide +kernel
theorem d_M_undo_40 : decode me_M_undo.2.1 40 = .ok (.getfield 72, 3) := by decide +kernel
theorem d_M_undo_43 : decode me_M_undo.2.1 43 = .ok (.iload_n 1, 1) := by decide +kernel
theorem d_M_undo_44 : decode me_M_undo.2.1 44 = .ok (.iaload, 1) := by decide +kernel
theorem d_M_undo_45 : decode me_M_undo.2.1 45 = .ok (.goto 4, 3) := by decide +kernel
theorem d_M_undo_48 : decode me_M_undo.2.1 48 = .ok (.iconst (-1), 1) := by decide +kernel
theorem d_M_undo_49 : decode me_M_undo.2.1 49 = .ok (.ireturn, 1) := by decide +kernel
abbrev G_M_undo_0 (l : Launch) (v : gs_V) (n : Nat) (post : Int32 → gs_S → Prop) (σ : gs_S) (x1 : Int32) : Prop := gG l v lyM 33 me_M_undo n (qI v lyM 33 post) 0 [(0, .ref (v.2.2 0)), (1, .int x1)] [] σ
abbrev G_M_undo_48 (l : Launch) (v : gs_V) (n : Nat) (post : Int32 → gs_S → Prop) (σ : gs_S) : Prop := gG l v lyM 33 me_M_undo n (qI v lyM 33 post) 48 [] [] σ
abbrev G_M_undo_49 (l : Launch) (v : gs_V) (n : Nat) (post : Int32 → gs_S → Prop) (σ : gs_S) (s0 : Int32) : Prop := gG l v lyM 33 me_M_undo n (qI v lyM 33 post) 49 [] [.int s0] σ
set_option maxRecDepth 20000 in
set_option maxHeartbeats 1000000 in
theorem T_M_undo_0 {l : Launch} {v : gs_V} {n : Nat} {post : Int32 → gs_S → Prop} {σ : gs_S} {x1 : Int32} (h : ((¬ (σ.1 0 2) = 0 → gM l v lyM 33 me_M_findInverse n [.ref (v.2.2 0)] σ (qV v lyM 33 (fun σ1 => (((σ1.1 0 32) ≤ 0 → G_M_undo_48 l v n post σ1) ∧ (¬ (σ1.1 0 32) ≤ 0 → ((x1 < 0 → G_M_undo_48 l v n post σ1) ∧ (¬ x1 < 0 → gM l v lyM 33 me_M_powerOf n [.int (σ1.1 0 2), .int (σ1.1 0 32)] σ1 (qI v lyM 33 (fun r2 σ2 => ((r2 ≤ x1 → G_M_undo_48 l v n post σ2) ∧ (¬ r2 ≤ x1 → vp_in x1 1024 ∧ G_M_undo_49 l v n post σ2 (σ2.1 20 x1.toNatClampNeg)))))))))))) ∧ ((σ.1 0 2) = 0 → post ((-1)) σ))) : G_M_undo_0 l v n post σ x1 := by
  refine g_aload_n d_M_undo_0 0 rfl rfl ?_
  refine g_getV (x := .int (σ.1 0 2)) d_M_undo_1 fl_M_179 (by decide) rfl rfl rfl ?_
  refine g_if_ne (tgt := 9) d_M_undo_4 rfl (fun hc => ?_) (fun hc => ?_)
  · have h := h.1 hc
    refine g_aload_n d_M_undo_9 0 rfl rfl ?_
    refine g_callVv (av := []) (rest := []) d_M_undo_10 Y_M_findInverse lk_M_245 (by decide) rfl rfl I_M_findInverse rfl (Nat.le_of_ble_eq_true rfl) rfl h (fun σ1 h => ?_)
    refine g_aload_n d_M_undo_13 0 rfl rfl ?_
    refine g_getV (x := .int (σ1.1 0 32)) d_M_undo_14 fl_M_236 (by decide) rfl rfl rfl ?_
    refine g_if_le (tgt := 48) d_M_undo_17 rfl (fun hc => ?_) (fun hc => ?_)
    · have h := h.1 hc
      exact g_sub [] rfl h
    · have h := h.2 hc
      refine g_iload_n d_M_undo_20 1 rfl rfl ?_
      refine g_if_lt (tgt := 48) d_M_undo_21 rfl (fun hc => ?_) (fun hc => ?_)
      · have h := h.1 hc
        exact g_sub [] rfl h
      · have h := h.2 hc
        refine g_iload_n d_M_undo_24 1 rfl rfl ?_
        refine g_aload_n d_M_undo_25 0 rfl rfl ?_
        refine g_getV (x := .int (σ1.1 0 2)) d_M_undo_26 fl_M_179 (by decide) rfl rfl rfl ?_
        refine g_aload_n d_M_undo_29 0 rfl rfl ?_
        refine g_getV (x := .int (σ1.1 0 32)) d_M_undo_30 fl_M_236 (by decide) rfl rfl rfl ?_
        refine g_callSi (av := [.int (σ1.1 0 2), .int (σ1.1 0 32)]) (rest := [.int x1]) d_M_undo_33 Y_M_powerOf lk_M_147 I_M_powerOf rfl (Nat.le_of_ble_eq_true rfl) rfl h (fun r2 σ2 h => ?_)
        refine g_icmp_ge (tgt := 48) d_M_undo_36 rfl (fun hc => ?_) (fun hc => ?_)
        · have h := h.1 hc
          exact g_sub [] rfl h
        · have h := h.2 hc
          refine g_aload_n d_M_undo_39 0 rfl rfl ?_
          refine g_getV (x := .ref (v.2.2 20)) d_M_undo_40 fl_M_72 (by decide) rfl rfl rfl ?_
          refine g_iload_n d_M_undo_43 1 rfl rfl ?_
          have hi3 := h.1
          have h := h.2
          refine g_iald (x := σ2.1 20 x1.toNatClampNeg) d_M_undo_44 (by decide) rfl hi3 rfl ?_
          refine g_goto (tgt := 49) d_M_undo_45 rfl ?_
          exact g_sub [] rfl h
  · have h := h.2 hc
    refine g_iconst d_M_undo_7 (x := (-1)) (by decide) ?_
    exact g_iret d_M_undo_8 rfl h
set_option maxRecDepth 20000 in
set_option maxHeartbeats 1000000 in
theorem T_M_undo_48 {l : Launch} {v : gs_V} {n : Nat} {post : Int32 → gs_S → Prop} {σ : gs_S} (h : G_M_undo_49 l v n post σ ((-1))) : G_M_undo_48 l v n post σ := by
  refine g_iconst d_M_undo_48 (x := (-1)) (by decide) ?_
  exact h
set_option maxRecDepth 20000 in
set_option maxHeartbeats 1000000 in
theorem T_M_undo_49 {l : Launch} {v : gs_V} {n : Nat} {post : Int32 → gs_S → Prop} {σ : gs_S} {s0 : Int32} (h : post s0 σ) : G_M_undo_49 l v n post σ s0 := by
  exact g_iret d_M_undo_49 rfl h
theorem E_M_undo {l : Launch} {v : gs_V} {n : Nat} {post : Int32 → gs_S → Prop} {σ : gs_S} {x1 : Int32} (h : G_M_undo_0 l v n post σ x1) : gM l v lyM 33 me_M_undo (n + 1) [.ref (v.2.2 0), .int x1] σ (qI v lyM 33 post) := gM_of (by decide +kernel) (Nat.le_of_ble_eq_true rfl) h
/-! LineRulesModel.ways -/
theorem d_M_ways_0 : decode me_M_ways.2.1 0 = .ok (.aload_n 0, 1) := by decide +kernel
theorem d_M_ways_1 : decode me_M_ways.2.1 1 = .ok (.getfield 179, 3) := by decide +kernel
theorem d_M_ways_4 : decode me_M_ways.2.1 4 = .ok (.ifCond .ne 7, 3) := by decide +kernel
theorem d_M_ways_7 : decode me_M_ways.2.1 7 = .ok (.ldc2_w 276, 3) := by decide +kernel
theorem d_M_ways_10 : decode me_M_ways.2.1 10 = .ok (.lreturn, 1) := by decide +kernel
theorem d_M_ways_11 : decode me_M_ways.2.1 11 = .ok (.aload_n 0, 1) := by decide +kernel
theorem d_M_ways_12 : decode me_M_ways.2.1 12 = .ok (.invokevirtual 308, 3) := by decide +kernel
theorem d_M_ways_15 : decode me_M_ways.2.1 15 = .ok (.aload_n 0, 1) := by decide +kernel
theorem d_M_ways_16 : decode me_M_ways.2.1 16 = .ok (.getfield 294, 3) := by decide +kernel
theorem d_M_ways_19 : decode me_M_ways.2.1 19 = .ok (.lreturn, 1) := by decide +kernel
abbrev G_M_ways_0 (l : Launch) (v : gs_V) (n : Nat) (post : Int64 → gs_S → Prop) (σ : gs_S) : Prop := gG l v lyM 33 me_M_ways n (qL v lyM 33 post) 0 [(0, .ref (v.2.2 0))] [] σ
set_option maxRecDepth 20000 in
set_option maxHeartbeats 1000000 in
theorem T_M_ways_0 {l : Launch} {v : gs_V} {n : Nat} {post : Int64 → gs_S → Prop} {σ : gs_S} (h : ((¬ (σ.1 0 2) = 0 → gM l v lyM 33 me_M_findBefore n [.ref (v.2.2 0)] σ (qV v lyM 33 (fun σ1 => post (σ1.2.1 0 49) σ1))) ∧ ((σ.1 0 2) = 0 → post ((-1)) σ))) : G_M_ways_0 l v n post σ := by
  refine g_aload_n d_M_ways_0 0 rfl rfl ?_
  refine g_getV (x := .int (σ.1 0 2)) d_M_ways_1 fl_M_179 (by decide) rfl rfl rfl ?_
  refine g_if_ne (tgt := 11) d_M_ways_4 rfl (fun hc => ?_) (fun hc => ?_)
  · have h := h.1 hc
    refine g_aload_n d_M_ways_11 0 rfl rfl ?_
    refine g_callVv (av := []) (rest := []) d_M_ways_12 Y_M_findBefore lk_M_308 (by decide) rfl rfl I_M_findBefore rfl (Nat.le_of_ble_eq_true rfl) rfl h (fun σ1 h => ?_)
    refine g_aload_n d_M_ways_15 0 rfl rfl ?_
    refine g_getV (x := .long (σ1.2.1 0 49)) d_M_ways_16 fl_M_294 (by decide) rfl rfl rfl ?_
    exact g_lret d_M_ways_19 rfl h
  · have h := h.2 hc
    refine g_ldc2 d_M_ways_7 (x := (-1)) (gw_t5 (List.mem_of_getElem? (i := 172) rfl) rfl) ?_
    exact g_lret d_M_ways_10 rfl h
theorem E_M_ways {l : Launch} {v : gs_V} {n : Nat} {post : Int64 → gs_S → Prop} {σ : gs_S} (h : G_M_ways_0 l v n post σ) : gM l v lyM 33 me_M_ways (n + 1) [.ref (v.2.2 0)] σ (qL v lyM 33 post) := gM_of (by decide +kernel) (Nat.le_of_ble_eq_true rfl) h
/-! LineRulesModel.weight -/
theorem d_M_weight_0 : decode me_M_weight.2.1 0 = .ok (.aload_n 0, 1) := by decide +kernel
theorem d_M_weight_1 : decode me_M_weight.2.1 1 = .ok (.getfield 179, 3) := by decide +kernel
theorem d_M_weight_4 : decode me_M_weight.2.1 4 = .ok (.ifCond .ne 5, 3) := by decide +kernel
theorem d_M_weight_7 : decode me_M_weight.2.1 7 = .ok (.iconst (-1), 1) := by decide +kernel
theorem d_M_weight_8 : decode me_M_weight.2.1 8 = .ok (.ireturn, 1) := by decide +kernel
theorem d_M_weight_9 : decode me_M_weight.2.1 9 = .ok (.aload_n 0, 1) := by decide +kernel
theorem d_M_weight_10 : decode me_M_weight.2.1 10 = .ok (.invokevirtual 267, 3) := by decide +kernel
theorem d_M_weight_13 : decode me_M_weight.2.1 13 = .ok (.iload_n 1, 1) := by decide +kernel
theorem d_M_weight_14 : decode me_M_weight.2.1 14 = .ok (.ifCond .lt 36, 3) := by decide +kernel
theorem d_M_weight_17 : decode me_M_weight.2.1 17 = .ok (.iload_n 1, 1) := by decide +kernel
theorem d_M_weight_18 : decode me_M_weight.2.1 18 = .ok (.aload_n 0, 1) := by decide +kernel
theorem d_M_weight_19 : decode me_M_weight.2.1 19 = .ok (.getfield 255, 3) := by decide +kernel
theorem d_M_weight_22 : decode me_M_weight.2.1 22 = .ok (.if_icmp .ge 28, 3) := by decide +kernel
theorem d_M_weight_25 : decode me_M_weight.2.1 25 = .ok (.iload_n 2, 1) := by decide +kernel
theorem d_M_weight_26 : decode me_M_weight.2.1 26 = .ok (.ifCond .lt 24, 3) := by decide +kernel
theorem d_M_weight_29 : decode me_M_weight.2.1 29 = .ok (.iload_n 2, 1) := by decide +kernel
theorem d_M_weight_30 : decode me_M_weight.2.1 30 = .ok (.aload_n 0, 1) := by decide +kernel
theorem d_M_weight_31 : decode me_M_weight.2.1 31 = .ok (.getfield 179, 3) := by decide +kernel
theorem d_M_weight_34 : decode me_M_weight.2.1 34 = .ok (.if_icmp .ge 16, 3) := by decide +kernel
theorem d_M_weight_37 : decode me_M_weight.2.1 37 = .ok (.aload_n 0, 1) := by decide +kernel
theorem d_M_weight_38 : decode me_M_weight.2.1 38 = .ok (.getfield 75, 3) := by decide +kernel
theorem d_M_weight_41 : decode me_M_weight.2.1 41 = .ok (.iconst 4, 1) := by decide +kernel
theorem d_M_weight_42 : decode me_M_weight.2.1 42 = .ok (.iload_n 1, 1) := by decide +kernel
theorem d_M_weight_43 : decode me_M_weight.2.1 43 = .ok (.imul, 1) := by decide +kernel
theorem d_M_weight_44 : decode me_M_weight.2.1 44 = .ok (.iload_n 2, 1) := by decide +kernel
theorem d_M_weight_45 : decode me_M_weight.2.1 45 = .ok (.iadd, 1) := by decide +kernel
theorem d_M_weight_46 : decode me_M_weight.2.1 46 = .ok (.iaload, 1) := by decide +kernel
theorem d_M_weight_47 : decode me_M_weight.2.1 47 = .ok (.goto 4, 3) := by decide +kernel
theorem d_M_weight_50 : decode me_M_weight.2.1 50 = .ok (.iconst 0, 1) := by decide +kernel
theorem d_M_weight_51 : decode me_M_weight.2.1 51 = .ok (.ireturn, 1) := by decide +kernel
abbrev G_M_weight_0 (l : Launch) (v : gs_V) (n : Nat) (post : Int32 → gs_S → Prop) (σ : gs_S) (x1 : Int32) (x2 : Int32) : Prop := gG l v lyM 33 me_M_weight n (qI v lyM 33 post) 0 [(0, .ref (v.2.2 0)), (1, .int x1), (2, .int x2)] [] σ
abbrev G_M_weight_50 (l : Launch) (v : gs_V) (n : Nat) (post : Int32 → gs_S → Prop) (σ : gs_S) : Prop := gG l v lyM 33 me_M_weight n (qI v lyM 33 post) 50 [] [] σ
abbrev G_M_weight_51 (l : Launch) (v : gs_V) (n : Nat) (post : Int32 → gs_S → Prop) (σ : gs_S) (s0 : Int32) : Prop := gG l v lyM 33 me_M_weight n (qI v lyM 33 post) 51 [] [.int s0] σ
set_option maxRecDepth 20000 in
set_option maxHeartbeats 1000000 in
theorem T_M_weight_0 {l : Launch} {v : gs_V} {n : Nat} {post : Int32 → gs_S → Prop} {σ : gs_S} {x1 : Int32} {x2 : Int32} (h : ((¬ (σ.1 0 2) = 0 → gM l v lyM 33 me_M_findWeights n [.ref (v.2.2 0)] σ (qV v lyM 33 (fun σ1 => ((x1 < 0 → G_M_weight_50 l v n post σ1) ∧ (¬ x1 < 0 → (((σ1.1 0 36) ≤ x1 → G_M_weight_50 l v n post σ1) ∧ (¬ (σ1.1 0 36) ≤ x1 → ((x2 < 0 → G_M_weight_50 l v n post σ1) ∧ (¬ x2 < 0 → (((σ1.1 0 2) ≤ x2 → G_M_weight_50 l v n post σ1) ∧ (¬ (σ1.1 0 2) ≤ x2 → vp_in ((4 * x1) + x2) 16 ∧ G_M_weight_51 l v n post σ1 (σ1.1 21 (((4 * x1) + x2).toNatClampNeg))))))))))))) ∧ ((σ.1 0 2) = 0 → post ((-1)) σ))) : G_M_weight_0 l v n post σ x1 x2 := by
  refine g_aload_n d_M_weight_0 0 rfl rfl ?_
  refine g_getV (x := .int (σ.1 0 2)) d_M_weight_1 fl_M_179 (by decide) rfl rfl rfl ?_
  refine g_if_ne (tgt := 9) d_M_weight_4 rfl (fun hc => ?_) (fun hc => ?_)
  · have h := h.1 hc
    refine g_aload_n d_M_weight_9 0 rfl rfl ?_
    refine g_callVv (av := []) (rest := []) d_M_weight_10 Y_M_findWeights lk_M_267 (by decide) rfl rfl I_M_findWeights rfl (Nat.le_of_ble_eq_true rfl) rfl h (fun σ1 h => ?_)
    refine g_iload_n d_M_weight_13 1 rfl rfl ?_
    refine g_if_lt (tgt := 50) d_M_weight_14 rfl (fun hc => ?_) (fun hc => ?_)
    · have h := h.1 hc
      exact g_sub [] rfl h
    · have h := h.2 hc
      refine g_iload_n d_M_weight_17 1 rfl rfl ?_
      refine g_aload_n d_M_weight_18 0 rfl rfl ?_
      refine g_getV (x := .int (σ1.1 0 36)) d_M_weight_19 fl_M_255 (by decide) rfl rfl rfl ?_
      refine g_icmp_ge (tgt := 50) d_M_weight_22 rfl (fun hc => ?_) (fun hc => ?_)
      · have h := h.1 hc
        exact g_sub [] rfl h
      · have h := h.2 hc
        refine g_iload_n d_M_weight_25 2 rfl rfl ?_
        refine g_if_lt (tgt := 50) d_M_weight_26 rfl (fun hc => ?_) (fun hc => ?_)
        · have h := h.1 hc
          exact g_sub [] rfl h
        · have h := h.2 hc
          refine g_iload_n d_M_weight_29 2 rfl rfl ?_
          refine g_aload_n d_M_weight_30 0 rfl rfl ?_
          refine g_getV (x := .int (σ1.1 0 2)) d_M_weight_31 fl_M_179 (by decide) rfl rfl rfl ?_
          refine g_icmp_ge (tgt := 50) d_M_weight_34 rfl (fun hc => ?_) (fun hc => ?_)
          · have h := h.1 hc
            exact g_sub [] rfl h
          · have h := h.2 hc
            refine g_aload_n d_M_weight_37 0 rfl rfl ?_
            refine g_getV (x := .ref (v.2.2 21)) d_M_weight_38 fl_M_75 (by decide) rfl rfl rfl ?_
            refine g_iconst d_M_weight_41 (x := 4) (by decide) ?_
            refine g_iload_n d_M_weight_42 1 rfl rfl ?_
            refine g_imul d_M_weight_43 ?_
            refine g_iload_n d_M_weight_44 2 rfl rfl ?_
            refine g_iadd d_M_weight_45 ?_
            have hi2 := h.1
            have h := h.2
            refine g_iald (x := σ1.1 21 (((4 * x1) + x2).toNatClampNeg)) d_M_weight_46 (by decide) rfl hi2 rfl ?_
            refine g_goto (tgt := 51) d_M_weight_47 rfl ?_
            exact g_sub [] rfl h
  · have h := h.2 hc
    refine g_iconst d_M_weight_7 (x := (-1)) (by decide) ?_
    exact g_iret d_M_weight_8 rfl h
set_option maxRecDepth 20000 in
set_option maxHeartbeats 1000000 in
theorem T_M_weight_50 {l : Launch} {v : gs_V} {n : Nat} {post : Int32 → gs_S → Prop} {σ : gs_S} (h : G_M_weight_51 l v n post σ 0) : G_M_weight_50 l v n post σ := by
  refine g_iconst d_M_weight_50 (x := 0) (by decide) ?_
  exact h
set_option maxRecDepth 20000 in
set_option maxHeartbeats 1000000 in
theorem T_M_weight_51 {l : Launch} {v : gs_V} {n : Nat} {post : Int32 → gs_S → Prop} {σ : gs_S} {s0 : Int32} (h : post s0 σ) : G_M_weight_51 l v n post σ s0 := by
  exact g_iret d_M_weight_51 rfl h
theorem E_M_weight {l : Launch} {v : gs_V} {n : Nat} {post : Int32 → gs_S → Prop} {σ : gs_S} {x1 : Int32} {x2 : Int32} (h : G_M_weight_0 l v n post σ x1 x2) : gM l v lyM 33 me_M_weight (n + 1) [.ref (v.2.2 0), .int x1, .int x2] σ (qI v lyM 33 post) := gM_of (by decide +kernel) (Nat.le_of_ble_eq_true rfl) h
