/-! java/lang/Math.abs -/
theorem d_J_abs_0 : decode me_J_abs.2.1 0 = .ok (.lload_n 0, 1) := by decide +kernel
theorem d_J_abs_1 : decode me_J_abs.2.1 1 = .ok (.lconst 0, 1) := by decide +kernel
theorem d_J_abs_2 : decode me_J_abs.2.1 2 = .ok (.lcmp, 1) := by decide +kernel
theorem d_J_abs_3 : decode me_J_abs.2.1 3 = .ok (.ifCond .ge 8, 3) := by decide +kernel
theorem d_J_abs_6 : decode me_J_abs.2.1 6 = .ok (.lload_n 0, 1) := by decide +kernel
theorem d_J_abs_7 : decode me_J_abs.2.1 7 = .ok (.lneg, 1) := by decide +kernel
theorem d_J_abs_8 : decode me_J_abs.2.1 8 = .ok (.goto 4, 3) := by decide +kernel
theorem d_J_abs_11 : decode me_J_abs.2.1 11 = .ok (.lload_n 0, 1) := by decide +kernel
theorem d_J_abs_12 : decode me_J_abs.2.1 12 = .ok (.lreturn, 1) := by decide +kernel
abbrev G_J_abs_0 (l : Launch) (v : gs_V) (n : Nat) (post : Int64 → gs_S → Prop) (σ : gs_S) (x0 : Int64) : Prop := gG l v lyC 42 me_J_abs n (qL v lyC 42 post) 0 [(0, .long x0)] [] σ
abbrev G_J_abs_12 (l : Launch) (v : gs_V) (n : Nat) (post : Int64 → gs_S → Prop) (σ : gs_S) (s0 : Int64) : Prop := gG l v lyC 42 me_J_abs n (qL v lyC 42 post) 12 [] [.long s0] σ
set_option maxRecDepth 20000 in
set_option maxHeartbeats 1000000 in
theorem T_J_abs_0 {l : Launch} {v : gs_V} {n : Nat} {post : Int64 → gs_S → Prop} {σ : gs_S} {x0 : Int64} (h : ((0 ≤ x0 → G_J_abs_12 l v n post σ x0) ∧ (¬ 0 ≤ x0 → G_J_abs_12 l v n post σ (-x0)))) : G_J_abs_0 l v n post σ x0 := by
  refine g_lload_n d_J_abs_0 0 rfl rfl ?_
  refine g_lconst d_J_abs_1 (x := 0) (by decide) ?_
  refine g_lcmp_ge (tgt := 11) d_J_abs_2 d_J_abs_3 rfl (fun hc => ?_) (fun hc => ?_)
  · have h := h.1 hc
    refine g_lload_n d_J_abs_11 0 rfl rfl ?_
    exact g_sub [] rfl h
  · have h := h.2 hc
    refine g_lload_n d_J_abs_6 0 rfl rfl ?_
    refine g_lneg d_J_abs_7 ?_
    refine g_goto (tgt := 12) d_J_abs_8 rfl ?_
    exact g_sub [] rfl h
set_option maxRecDepth 20000 in
set_option maxHeartbeats 1000000 in
theorem T_J_abs_12 {l : Launch} {v : gs_V} {n : Nat} {post : Int64 → gs_S → Prop} {σ : gs_S} {s0 : Int64} (h : post s0 σ) : G_J_abs_12 l v n post σ s0 := by
  exact g_lret d_J_abs_12 rfl h
theorem E_J_abs {l : Launch} {v : gs_V} {n : Nat} {post : Int64 → gs_S → Prop} {σ : gs_S} {x0 : Int64} (h : G_J_abs_0 l v n post σ x0) : gM l v lyC 42 me_J_abs (n + 1) [.long x0] σ (qL v lyC 42 post) := gM_of (by decide +kernel) (Nat.le_of_ble_eq_true rfl) h
/-! java/lang/Math.floorMod -/
theorem d_J_floorMod_0 : decode me_J_floorMod.2.1 0 = .ok (.iload_n 0, 1) := by decide +kernel
theorem d_J_floorMod_1 : decode me_J_floorMod.2.1 1 = .ok (.iload_n 1, 1) := by decide +kernel
theorem d_J_floorMod_2 : decode me_J_floorMod.2.1 2 = .ok (.irem, 1) := by decide +kernel
theorem d_J_floorMod_3 : decode me_J_floorMod.2.1 3 = .ok (.istore_n 2, 1) := by decide +kernel
theorem d_J_floorMod_4 : decode me_J_floorMod.2.1 4 = .ok (.iload_n 0, 1) := by decide +kernel
theorem d_J_floorMod_5 : decode me_J_floorMod.2.1 5 = .ok (.iload_n 1, 1) := by decide +kernel
theorem d_J_floorMod_6 : decode me_J_floorMod.2.1 6 = .ok (.ixor, 1) := by decide +kernel
theorem d_J_floorMod_7 : decode me_J_floorMod.2.1 7 = .ok (.ifCond .ge 11, 3) := by decide +kernel
theorem d_J_floorMod_10 : decode me_J_floorMod.2.1 10 = .ok (.iload_n 2, 1) := by decide +kernel
theorem d_J_floorMod_11 : decode me_J_floorMod.2.1 11 = .ok (.ifCond .eq 7, 3) := by decide +kernel
theorem d_J_floorMod_14 : decode me_J_floorMod.2.1 14 = .ok (.iload_n 2, 1) := by decide +kernel
theorem d_J_floorMod_15 : decode me_J_floorMod.2.1 15 = .ok (.iload_n 1, 1) := by decide +kernel
theorem d_J_floorMod_16 : decode me_J_floorMod.2.1 16 = .ok (.iadd, 1) := by decide +kernel
theorem d_J_floorMod_17 : decode me_J_floorMod.2.1 17 = .ok (.ireturn, 1) := by decide +kernel
theorem d_J_floorMod_18 : decode me_J_floorMod.2.1 18 = .ok (.iload_n 2, 1) := by decide +kernel
theorem d_J_floorMod_19 : decode me_J_floorMod.2.1 19 = .ok (.ireturn, 1) := by decide +kernel
abbrev G_J_floorMod_0 (l : Launch) (v : gs_V) (n : Nat) (post : Int32 → gs_S → Prop) (σ : gs_S) (x0 : Int32) (x1 : Int32) : Prop := gG l v lyC 42 me_J_floorMod n (qI v lyC 42 post) 0 [(0, .int x0), (1, .int x1)] [] σ
abbrev G_J_floorMod_18 (l : Launch) (v : gs_V) (n : Nat) (post : Int32 → gs_S → Prop) (σ : gs_S) (x2 : Int32) : Prop := gG l v lyC 42 me_J_floorMod n (qI v lyC 42 post) 18 [(2, .int x2)] [] σ
set_option maxRecDepth 20000 in
set_option maxHeartbeats 1000000 in
theorem T_J_floorMod_0 {l : Launch} {v : gs_V} {n : Nat} {post : Int32 → gs_S → Prop} {σ : gs_S} {x0 : Int32} {x1 : Int32} (h : ¬ x1 = 0 ∧ ((0 ≤ (x0 ^^^ x1) → G_J_floorMod_18 l v n post σ (jR x0 x1)) ∧ (¬ 0 ≤ (x0 ^^^ x1) → (((jR x0 x1) = 0 → G_J_floorMod_18 l v n post σ (jR x0 x1)) ∧ (¬ (jR x0 x1) = 0 → post ((jR x0 x1) + x1) σ))))) : G_J_floorMod_0 l v n post σ x0 x1 := by
  refine g_iload_n d_J_floorMod_0 0 rfl rfl ?_
  refine g_iload_n d_J_floorMod_1 1 rfl rfl ?_
  refine g_irem d_J_floorMod_2 h.1 ?_
  have h := h.2
  refine g_istore_n (L' := [(2, .int (jR x0 x1)), (0, .int x0), (1, .int x1)]) d_J_floorMod_3 rfl (by decide) rfl ?_
  refine g_iload_n d_J_floorMod_4 1 rfl rfl ?_
  refine g_iload_n d_J_floorMod_5 2 rfl rfl ?_
  refine g_ixor d_J_floorMod_6 ?_
  refine g_if_ge (tgt := 18) d_J_floorMod_7 rfl (fun hc => ?_) (fun hc => ?_)
  · have h := h.1 hc
    exact g_sub [0] rfl h
  · have h := h.2 hc
    refine g_iload_n d_J_floorMod_10 0 rfl rfl ?_
    refine g_if_eq (tgt := 18) d_J_floorMod_11 rfl (fun hc => ?_) (fun hc => ?_)
    · have h := h.1 hc
      exact g_sub [0] rfl h
    · have h := h.2 hc
      refine g_iload_n d_J_floorMod_14 0 rfl rfl ?_
      refine g_iload_n d_J_floorMod_15 2 rfl rfl ?_
      refine g_iadd d_J_floorMod_16 ?_
      exact g_iret d_J_floorMod_17 rfl h
set_option maxRecDepth 20000 in
set_option maxHeartbeats 1000000 in
theorem T_J_floorMod_18 {l : Launch} {v : gs_V} {n : Nat} {post : Int32 → gs_S → Prop} {σ : gs_S} {x2 : Int32} (h : post x2 σ) : G_J_floorMod_18 l v n post σ x2 := by
  refine g_iload_n d_J_floorMod_18 0 rfl rfl ?_
  exact g_iret d_J_floorMod_19 rfl h
theorem E_J_floorMod {l : Launch} {v : gs_V} {n : Nat} {post : Int32 → gs_S → Prop} {σ : gs_S} {x0 : Int32} {x1 : Int32} (h : G_J_floorMod_0 l v n post σ x0 x1) : gM l v lyC 42 me_J_floorMod (n + 1) [.int x0, .int x1] σ (qI v lyC 42 post) := gM_of (by decide +kernel) (Nat.le_of_ble_eq_true rfl) h
/-! java/lang/Math.max -/
theorem d_J_max_0 : decode me_J_max.2.1 0 = .ok (.iload_n 0, 1) := by decide +kernel
theorem d_J_max_1 : decode me_J_max.2.1 1 = .ok (.iload_n 1, 1) := by decide +kernel
theorem d_J_max_2 : decode me_J_max.2.1 2 = .ok (.if_icmp .lt 7, 3) := by decide +kernel
theorem d_J_max_5 : decode me_J_max.2.1 5 = .ok (.iload_n 0, 1) := by decide +kernel
theorem d_J_max_6 : decode me_J_max.2.1 6 = .ok (.goto 4, 3) := by decide +kernel
theorem d_J_max_9 : decode me_J_max.2.1 9 = .ok (.iload_n 1, 1) := by decide +kernel
theorem d_J_max_10 : decode me_J_max.2.1 10 = .ok (.ireturn, 1) := by decide +kernel
abbrev G_J_max_0 (l : Launch) (v : gs_V) (n : Nat) (post : Int32 → gs_S → Prop) (σ : gs_S) (x0 : Int32) (x1 : Int32) : Prop := gG l v lyC 42 me_J_max n (qI v lyC 42 post) 0 [(0, .int x0), (1, .int x1)] [] σ
abbrev G_J_max_10 (l : Launch) (v : gs_V) (n : Nat) (post : Int32 → gs_S → Prop) (σ : gs_S) (s0 : Int32) : Prop := gG l v lyC 42 me_J_max n (qI v lyC 42 post) 10 [] [.int s0] σ
set_option maxRecDepth 20000 in
set_option maxHeartbeats 1000000 in
theorem T_J_max_0 {l : Launch} {v : gs_V} {n : Nat} {post : Int32 → gs_S → Prop} {σ : gs_S} {x0 : Int32} {x1 : Int32} (h : ((x0 < x1 → G_J_max_10 l v n post σ x1) ∧ (¬ x0 < x1 → G_J_max_10 l v n post σ x0))) : G_J_max_0 l v n post σ x0 x1 := by
  refine g_iload_n d_J_max_0 0 rfl rfl ?_
  refine g_iload_n d_J_max_1 1 rfl rfl ?_
  refine g_icmp_lt (tgt := 9) d_J_max_2 rfl (fun hc => ?_) (fun hc => ?_)
  · have h := h.1 hc
    refine g_iload_n d_J_max_9 1 rfl rfl ?_
    exact g_sub [] rfl h
  · have h := h.2 hc
    refine g_iload_n d_J_max_5 0 rfl rfl ?_
    refine g_goto (tgt := 10) d_J_max_6 rfl ?_
    exact g_sub [] rfl h
set_option maxRecDepth 20000 in
set_option maxHeartbeats 1000000 in
theorem T_J_max_10 {l : Launch} {v : gs_V} {n : Nat} {post : Int32 → gs_S → Prop} {σ : gs_S} {s0 : Int32} (h : post s0 σ) : G_J_max_10 l v n post σ s0 := by
  exact g_iret d_J_max_10 rfl h
theorem E_J_max {l : Launch} {v : gs_V} {n : Nat} {post : Int32 → gs_S → Prop} {σ : gs_S} {x0 : Int32} {x1 : Int32} (h : G_J_max_0 l v n post σ x0 x1) : gM l v lyC 42 me_J_max (n + 1) [.int x0, .int x1] σ (qI v lyC 42 post) := gM_of (by decide +kernel) (Nat.le_of_ble_eq_true rfl) h
/-! java/lang/Math.min -/
theorem d_J_min_0 : decode me_J_min.2.1 0 = .ok (.iload_n 0, 1) := by decide +kernel
theorem d_J_min_1 : decode me_J_min.2.1 1 = .ok (.iload_n 1, 1) := by decide +kernel
theorem d_J_min_2 : decode me_J_min.2.1 2 = .ok (.if_icmp .gt 7, 3) := by decide +kernel
theorem d_J_min_5 : decode me_J_min.2.1 5 = .ok (.iload_n 0, 1) := by decide +kernel
theorem d_J_min_6 : decode me_J_min.2.1 6 = .ok (.goto 4, 3) := by decide +kernel
theorem d_J_min_9 : decode me_J_min.2.1 9 = .ok (.iload_n 1, 1) := by decide +kernel
theorem d_J_min_10 : decode me_J_min.2.1 10 = .ok (.ireturn, 1) := by decide +kernel
abbrev G_J_min_0 (l : Launch) (v : gs_V) (n : Nat) (post : Int32 → gs_S → Prop) (σ : gs_S) (x0 : Int32) (x1 : Int32) : Prop := gG l v lyC 42 me_J_min n (qI v lyC 42 post) 0 [(0, .int x0), (1, .int x1)] [] σ
abbrev G_J_min_10 (l : Launch) (v : gs_V) (n : Nat) (post : Int32 → gs_S → Prop) (σ : gs_S) (s0 : Int32) : Prop := gG l v lyC 42 me_J_min n (qI v lyC 42 post) 10 [] [.int s0] σ
set_option maxRecDepth 20000 in
set_option maxHeartbeats 1000000 in
theorem T_J_min_0 {l : Launch} {v : gs_V} {n : Nat} {post : Int32 → gs_S → Prop} {σ : gs_S} {x0 : Int32} {x1 : Int32} (h : ((x1 < x0 → G_J_min_10 l v n post σ x1) ∧ (¬ x1 < x0 → G_J_min_10 l v n post σ x0))) : G_J_min_0 l v n post σ x0 x1 := by
  refine g_iload_n d_J_min_0 0 rfl rfl ?_
  refine g_iload_n d_J_min_1 1 rfl rfl ?_
  refine g_icmp_gt (tgt := 9) d_J_min_2 rfl (fun hc => ?_) (fun hc => ?_)
  · have h := h.1 hc
    refine g_iload_n d_J_min_9 1 rfl rfl ?_
    exact g_sub [] rfl h
  · have h := h.2 hc
    refine g_iload_n d_J_min_5 0 rfl rfl ?_
    refine g_goto (tgt := 10) d_J_min_6 rfl ?_
    exact g_sub [] rfl h
set_option maxRecDepth 20000 in
set_option maxHeartbeats 1000000 in
theorem T_J_min_10 {l : Launch} {v : gs_V} {n : Nat} {post : Int32 → gs_S → Prop} {σ : gs_S} {s0 : Int32} (h : post s0 σ) : G_J_min_10 l v n post σ s0 := by
  exact g_iret d_J_min_10 rfl h
theorem E_J_min {l : Launch} {v : gs_V} {n : Nat} {post : Int32 → gs_S → Prop} {σ : gs_S} {x0 : Int32} {x1 : Int32} (h : G_J_min_0 l v n post σ x0 x1) : gM l v lyC 42 me_J_min (n + 1) [.int x0, .int x1] σ (qI v lyC 42 post) := gM_of (by decide +kernel) (Nat.le_of_ble_eq_true rfl) h
/-! java/util/Arrays.fill -/
theorem d_Y_fillI_0 : decode me_Y_fillI.2.1 0 = .ok (.iconst 0, 1) := by decide +kernel
theorem d_Y_fillI_1 : decode me_Y_fillI.2.1 1 = .ok (.istore_n 2, 1) := by decide +kernel
theorem d_Y_fillI_2 : decode me_Y_fillI.2.1 2 = .ok (.aload_n 0, 1) := by decide +kernel
theorem d_Y_fillI_3 : decode me_Y_fillI.2.1 3 = .ok (.arraylength, 1) := by decide +kernel
theorem d_Y_fillI_4 : decode me_Y_fillI.2.1 4 = .ok (.istore_n 3, 1) := by decide +kernel
theorem d_Y_fillI_5 : decode me_Y_fillI.2.1 5 = .ok (.iload_n 2, 1) := by decide +kernel
theorem d_Y_fillI_6 : decode me_Y_fillI.2.1 6 = .ok (.iload_n 3, 1) := by decide +kernel
theorem d_Y_fillI_7 : decode me_Y_fillI.2.1 7 = .ok (.if_icmp .ge 13, 3) := by decide +kernel
theorem d_Y_fillI_10 : decode me_Y_fillI.2.1 10 = .ok (.aload_n 0, 1) := by decide +kernel
theorem d_Y_fillI_11 : decode me_Y_fillI.2.1 11 = .ok (.iload_n 2, 1) := by decide +kernel
theorem d_Y_fillI_12 : decode me_Y_fillI.2.1 12 = .ok (.iload_n 1, 1) := by decide +kernel
theorem d_Y_fillI_13 : decode me_Y_fillI.2.1 13 = .ok (.iastore, 1) := by decide +kernel
theorem d_Y_fillI_14 : decode me_Y_fillI.2.1 14 = .ok (.iinc 2 1, 3) := by decide +kernel
theorem d_Y_fillI_17 : decode me_Y_fillI.2.1 17 = .ok (.goto (-12), 3) := by decide +kernel
theorem d_Y_fillI_20 : decode me_Y_fillI.2.1 20 = .ok (.return_, 1) := by decide +kernel
abbrev G_Y_fillI_0 (l : Launch) (v : gs_V) (n : Nat) (post : gs_S → Prop) (σ : gs_S) (x0 : Nat) (x1 : Int32) : Prop := gG l v lyC 42 me_Y_fillI n (qV v lyC 42 post) 0 [(0, .ref (v.2.2 x0)), (1, .int x1)] [] σ
abbrev G_Y_fillI_5 (l : Launch) (v : gs_V) (n : Nat) (post : gs_S → Prop) (σ : gs_S) (x0 : Nat) (x1 : Int32) (x2 : Int32) (x3 : Int32) : Prop := gG l v lyC 42 me_Y_fillI n (qV v lyC 42 post) 5 [(0, .ref (v.2.2 x0)), (1, .int x1), (2, .int x2), (3, .int x3)] [] σ
set_option maxRecDepth 20000 in
set_option maxHeartbeats 1000000 in
theorem T_Y_fillI_0 {l : Launch} {v : gs_V} {n : Nat} {post : gs_S → Prop} {σ : gs_S} {x0 : Nat} {x1 : Int32} {len : Nat} (hx0 : x0 < 42 ∧ lyC x0 = .inl (0, len, 0)) (h : G_Y_fillI_5 l v n post σ x0 x1 0 (Int32.ofNat len)) : G_Y_fillI_0 l v n post σ x0 x1 := by
  refine g_iconst d_Y_fillI_0 (x := 0) (by decide) ?_
  refine g_istore_n (L' := [(2, .int 0), (0, .ref (v.2.2 x0)), (1, .int x1)]) d_Y_fillI_1 rfl (by decide) rfl ?_
  refine g_aload_n d_Y_fillI_2 1 rfl rfl ?_
  refine g_alen (x := Int32.ofNat len) d_Y_fillI_3 hx0.1 hx0.2 (by decide) (by rfl) ?_
  refine g_istore_n (L' := [(3, .int (Int32.ofNat len)), (2, .int 0), (0, .ref (v.2.2 x0)), (1, .int x1)]) d_Y_fillI_4 rfl (by decide) rfl ?_
  exact g_sub [2, 3, 1, 0] rfl h
set_option maxRecDepth 20000 in
set_option maxHeartbeats 1000000 in
theorem T_Y_fillI_5 {l : Launch} {v : gs_V} {n : Nat} {post : gs_S → Prop} {σ : gs_S} {x0 : Nat} {x1 : Int32} {x2 : Int32} {x3 : Int32} {len : Nat} (hx0 : x0 < 42 ∧ lyC x0 = .inl (0, len, 0)) (h : ((x3 ≤ x2 → post σ) ∧ (¬ x3 ≤ x2 → vp_in x2 len ∧ G_Y_fillI_5 l v n post (gs_pI σ x0 x2.toNatClampNeg x1) x0 x1 (x2 + 1) x3))) : G_Y_fillI_5 l v n post σ x0 x1 x2 x3 := by
  refine g_iload_n d_Y_fillI_5 2 rfl rfl ?_
  refine g_iload_n d_Y_fillI_6 3 rfl rfl ?_
  refine g_icmp_ge (tgt := 20) d_Y_fillI_7 rfl (fun hc => ?_) (fun hc => ?_)
  · have h := h.1 hc
    exact g_vret d_Y_fillI_20 rfl h
  · have h := h.2 hc
    refine g_aload_n d_Y_fillI_10 0 rfl rfl ?_
    refine g_iload_n d_Y_fillI_11 2 rfl rfl ?_
    refine g_iload_n d_Y_fillI_12 1 rfl rfl ?_
    have hi1 := h.1
    have h := h.2
    refine g_iast d_Y_fillI_13 hx0.1 hx0.2 hi1 ?_
    refine g_iinc (L' := [(2, .int (x2 + 1)), (0, .ref (v.2.2 x0)), (1, .int x1), (3, .int x3)]) d_Y_fillI_14 2 rfl (by rfl) (by decide) rfl ?_
    refine g_goto (tgt := 5) d_Y_fillI_17 rfl ?_
    exact g_sub [1, 2, 0, 3] rfl h
theorem E_Y_fillI {l : Launch} {v : gs_V} {n : Nat} {post : gs_S → Prop} {σ : gs_S} {x0 : Nat} {x1 : Int32} (h : G_Y_fillI_0 l v n post σ x0 x1) : gM l v lyC 42 me_Y_fillI (n + 1) [.ref (v.2.2 x0), .int x1] σ (qV v lyC 42 post) := gM_of (by decide +kernel) (Nat.le_of_ble_eq_true rfl) h
/-! java/util/Arrays.fill -/
theorem d_Y_fillJ_0 : decode me_Y_fillJ.2.1 0 = .ok (.iconst 0, 1) := by decide +kernel
theorem d_Y_fillJ_1 : decode me_Y_fillJ.2.1 1 = .ok (.istore_n 3, 1) := by decide +kernel
theorem d_Y_fillJ_2 : decode me_Y_fillJ.2.1 2 = .ok (.aload_n 0, 1) := by decide +kernel
theorem d_Y_fillJ_3 : decode me_Y_fillJ.2.1 3 = .ok (.arraylength, 1) := by decide +kernel
theorem d_Y_fillJ_4 : decode me_Y_fillJ.2.1 4 = .ok (.istore 4, 2) := by decide +kernel
theorem d_Y_fillJ_6 : decode me_Y_fillJ.2.1 6 = .ok (.iload_n 3, 1) := by decide +kernel
theorem d_Y_fillJ_7 : decode me_Y_fillJ.2.1 7 = .ok (.iload 4, 2) := by decide +kernel
theorem d_Y_fillJ_9 : decode me_Y_fillJ.2.1 9 = .ok (.if_icmp .ge 13, 3) := by decide +kernel
theorem d_Y_fillJ_12 : decode me_Y_fillJ.2.1 12 = .ok (.aload_n 0, 1) := by decide +kernel
theorem d_Y_fillJ_13 : decode me_Y_fillJ.2.1 13 = .ok (.iload_n 3, 1) := by decide +kernel
theorem d_Y_fillJ_14 : decode me_Y_fillJ.2.1 14 = .ok (.lload_n 1, 1) := by decide +kernel
theorem d_Y_fillJ_15 : decode me_Y_fillJ.2.1 15 = .ok (.lastore, 1) := by decide +kernel
theorem d_Y_fillJ_16 : decode me_Y_fillJ.2.1 16 = .ok (.iinc 3 1, 3) := by decide +kernel
theorem d_Y_fillJ_19 : decode me_Y_fillJ.2.1 19 = .ok (.goto (-13), 3) := by decide +kernel
theorem d_Y_fillJ_22 : decode me_Y_fillJ.2.1 22 = .ok (.return_, 1) := by decide +kernel
abbrev G_Y_fillJ_0 (l : Launch) (v : gs_V) (n : Nat) (post : gs_S → Prop) (σ : gs_S) (x0 : Nat) (x1 : Int64) : Prop := gG l v lyC 42 me_Y_fillJ n (qV v lyC 42 post) 0 [(0, .ref (v.2.2 x0)), (1, .long x1)] [] σ
abbrev G_Y_fillJ_6 (l : Launch) (v : gs_V) (n : Nat) (post : gs_S → Prop) (σ : gs_S) (x0 : Nat) (x1 : Int64) (x3 : Int32) (x4 : Int32) : Prop := gG l v lyC 42 me_Y_fillJ n (qV v lyC 42 post) 6 [(0, .ref (v.2.2 x0)), (1, .long x1), (3, .int x3), (4, .int x4)] [] σ
set_option maxRecDepth 20000 in
set_option maxHeartbeats 1000000 in
theorem T_Y_fillJ_0 {l : Launch} {v : gs_V} {n : Nat} {post : gs_S → Prop} {σ : gs_S} {x0 : Nat} {x1 : Int64} {len : Nat} (hx0 : x0 < 42 ∧ lyC x0 = .inl (1, len, 0)) (h : G_Y_fillJ_6 l v n post σ x0 x1 0 (Int32.ofNat len)) : G_Y_fillJ_0 l v n post σ x0 x1 := by
  refine g_iconst d_Y_fillJ_0 (x := 0) (by decide) ?_
  refine g_istore_n (L' := [(3, .int 0), (0, .ref (v.2.2 x0)), (1, .long x1)]) d_Y_fillJ_1 rfl (by decide) rfl ?_
  refine g_aload_n d_Y_fillJ_2 1 rfl rfl ?_
  refine g_alen (x := Int32.ofNat len) d_Y_fillJ_3 hx0.1 hx0.2 (by decide) (by rfl) ?_
  refine g_istore (L' := [(4, .int (Int32.ofNat len)), (3, .int 0), (0, .ref (v.2.2 x0)), (1, .long x1)]) d_Y_fillJ_4 (by decide) rfl ?_
  exact g_sub [2, 3, 1, 0] rfl h
set_option maxRecDepth 20000 in
set_option maxHeartbeats 1000000 in
theorem T_Y_fillJ_6 {l : Launch} {v : gs_V} {n : Nat} {post : gs_S → Prop} {σ : gs_S} {x0 : Nat} {x1 : Int64} {x3 : Int32} {x4 : Int32} {len : Nat} (hx0 : x0 < 42 ∧ lyC x0 = .inl (1, len, 0)) (h : ((x4 ≤ x3 → post σ) ∧ (¬ x4 ≤ x3 → vp_in x3 len ∧ G_Y_fillJ_6 l v n post (gs_pL σ x0 x3.toNatClampNeg x1) x0 x1 (x3 + 1) x4))) : G_Y_fillJ_6 l v n post σ x0 x1 x3 x4 := by
  refine g_iload_n d_Y_fillJ_6 2 rfl rfl ?_
  refine g_iload d_Y_fillJ_7 3 rfl ?_
  refine g_icmp_ge (tgt := 22) d_Y_fillJ_9 rfl (fun hc => ?_) (fun hc => ?_)
  · have h := h.1 hc
    exact g_vret d_Y_fillJ_22 rfl h
  · have h := h.2 hc
    refine g_aload_n d_Y_fillJ_12 0 rfl rfl ?_
    refine g_iload_n d_Y_fillJ_13 2 rfl rfl ?_
    refine g_lload_n d_Y_fillJ_14 1 rfl rfl ?_
    have hi1 := h.1
    have h := h.2
    refine g_last d_Y_fillJ_15 hx0.1 hx0.2 hi1 ?_
    refine g_iinc (L' := [(3, .int (x3 + 1)), (0, .ref (v.2.2 x0)), (1, .long x1), (4, .int x4)]) d_Y_fillJ_16 2 rfl (by rfl) (by decide) rfl ?_
    refine g_goto (tgt := 6) d_Y_fillJ_19 rfl ?_
    exact g_sub [1, 2, 0, 3] rfl h
theorem E_Y_fillJ {l : Launch} {v : gs_V} {n : Nat} {post : gs_S → Prop} {σ : gs_S} {x0 : Nat} {x1 : Int64} (h : G_Y_fillJ_0 l v n post σ x0 x1) : gM l v lyC 42 me_Y_fillJ (n + 1) [.ref (v.2.2 x0), .long x1] σ (qV v lyC 42 post) := gM_of (by decide +kernel) (Nat.le_of_ble_eq_true rfl) h
/-! java/util/Arrays.fill -/
theorem d_Y_fillR_0 : decode me_Y_fillR.2.1 0 = .ok (.aload_n 0, 1) := by decide +kernel
theorem d_Y_fillR_1 : decode me_Y_fillR.2.1 1 = .ok (.arraylength, 1) := by decide +kernel
theorem d_Y_fillR_2 : decode me_Y_fillR.2.1 2 = .ok (.iload_n 1, 1) := by decide +kernel
theorem d_Y_fillR_3 : decode me_Y_fillR.2.1 3 = .ok (.iload_n 2, 1) := by decide +kernel
theorem d_Y_fillR_4 : decode me_Y_fillR.2.1 4 = .ok (.invokestatic 13, 3) := by decide +kernel
theorem d_Y_fillR_7 : decode me_Y_fillR.2.1 7 = .ok (.iload_n 1, 1) := by decide +kernel
theorem d_Y_fillR_8 : decode me_Y_fillR.2.1 8 = .ok (.istore 5, 2) := by decide +kernel
theorem d_Y_fillR_10 : decode me_Y_fillR.2.1 10 = .ok (.iload 5, 2) := by decide +kernel
theorem d_Y_fillR_12 : decode me_Y_fillR.2.1 12 = .ok (.iload_n 2, 1) := by decide +kernel
theorem d_Y_fillR_13 : decode me_Y_fillR.2.1 13 = .ok (.if_icmp .ge 14, 3) := by decide +kernel
theorem d_Y_fillR_16 : decode me_Y_fillR.2.1 16 = .ok (.aload_n 0, 1) := by decide +kernel
theorem d_Y_fillR_17 : decode me_Y_fillR.2.1 17 = .ok (.iload 5, 2) := by decide +kernel
theorem d_Y_fillR_19 : decode me_Y_fillR.2.1 19 = .ok (.lload_n 3, 1) := by decide +kernel
theorem d_Y_fillR_20 : decode me_Y_fillR.2.1 20 = .ok (.lastore, 1) := by decide +kernel
theorem d_Y_fillR_21 : decode me_Y_fillR.2.1 21 = .ok (.iinc 5 1, 3) := by decide +kernel
theorem d_Y_fillR_24 : decode me_Y_fillR.2.1 24 = .ok (.goto (-14), 3) := by decide +kernel
theorem d_Y_fillR_27 : decode me_Y_fillR.2.1 27 = .ok (.return_, 1) := by decide +kernel
abbrev G_Y_fillR_0 (l : Launch) (v : gs_V) (n : Nat) (post : gs_S → Prop) (σ : gs_S) (x0 : Nat) (x1 : Int32) (x2 : Int32) (x3 : Int64) : Prop := gG l v lyC 42 me_Y_fillR n (qV v lyC 42 post) 0 [(0, .ref (v.2.2 x0)), (1, .int x1), (2, .int x2), (3, .long x3)] [] σ
abbrev G_Y_fillR_10 (l : Launch) (v : gs_V) (n : Nat) (post : gs_S → Prop) (σ : gs_S) (x0 : Nat) (x2 : Int32) (x3 : Int64) (x5 : Int32) : Prop := gG l v lyC 42 me_Y_fillR n (qV v lyC 42 post) 10 [(0, .ref (v.2.2 x0)), (2, .int x2), (3, .long x3), (5, .int x5)] [] σ
set_option maxRecDepth 20000 in
set_option maxHeartbeats 1000000 in
theorem T_Y_fillR_0 {l : Launch} {v : gs_V} {n : Nat} {post : gs_S → Prop} {σ : gs_S} {x0 : Nat} {x1 : Int32} {x2 : Int32} {x3 : Int64} {len : Nat} (hx0 : x0 < 42 ∧ lyC x0 = .inl (1, len, 0)) (h : gM l v lyC 42 me_Y_rangeCheck n [.int (Int32.ofNat len), .int x1, .int x2] σ (qV v lyC 42 (fun σ1 => G_Y_fillR_10 l v n post σ1 x0 x2 x3 x1))) : G_Y_fillR_0 l v n post σ x0 x1 x2 x3 := by
  refine g_aload_n d_Y_fillR_0 0 rfl rfl ?_
  refine g_alen (x := Int32.ofNat len) d_Y_fillR_1 hx0.1 hx0.2 (by decide) (by rfl) ?_
  refine g_iload_n d_Y_fillR_2 1 rfl rfl ?_
  refine g_iload_n d_Y_fillR_3 2 rfl rfl ?_
  refine g_callSv (av := [.int (Int32.ofNat len), .int x1, .int x2]) (rest := []) d_Y_fillR_4 Y_Y_rangeCheck lk_Y_13 I_Y_rangeCheck rfl (Nat.le_of_ble_eq_true rfl) rfl h (fun σ1 h => ?_)
  refine g_iload_n d_Y_fillR_7 1 rfl rfl ?_
  refine g_istore (L' := [(5, .int x1), (0, .ref (v.2.2 x0)), (1, .int x1), (2, .int x2), (3, .long x3)]) d_Y_fillR_8 (by decide) rfl ?_
  exact g_sub [1, 3, 4, 0] rfl h
set_option maxRecDepth 20000 in
set_option maxHeartbeats 1000000 in
theorem T_Y_fillR_10 {l : Launch} {v : gs_V} {n : Nat} {post : gs_S → Prop} {σ : gs_S} {x0 : Nat} {x2 : Int32} {x3 : Int64} {x5 : Int32} {len : Nat} (hx0 : x0 < 42 ∧ lyC x0 = .inl (1, len, 0)) (h : ((x2 ≤ x5 → post σ) ∧ (¬ x2 ≤ x5 → vp_in x5 len ∧ G_Y_fillR_10 l v n post (gs_pL σ x0 x5.toNatClampNeg x3) x0 x2 x3 (x5 + 1)))) : G_Y_fillR_10 l v n post σ x0 x2 x3 x5 := by
  refine g_iload d_Y_fillR_10 3 rfl ?_
  refine g_iload_n d_Y_fillR_12 1 rfl rfl ?_
  refine g_icmp_ge (tgt := 27) d_Y_fillR_13 rfl (fun hc => ?_) (fun hc => ?_)
  · have h := h.1 hc
    exact g_vret d_Y_fillR_27 rfl h
  · have h := h.2 hc
    refine g_aload_n d_Y_fillR_16 0 rfl rfl ?_
    refine g_iload d_Y_fillR_17 3 rfl ?_
    refine g_lload_n d_Y_fillR_19 2 rfl rfl ?_
    have hi1 := h.1
    have h := h.2
    refine g_last d_Y_fillR_20 hx0.1 hx0.2 hi1 ?_
    refine g_iinc (L' := [(5, .int (x5 + 1)), (0, .ref (v.2.2 x0)), (2, .int x2), (3, .long x3)]) d_Y_fillR_21 3 rfl (by rfl) (by decide) rfl ?_
    refine g_goto (tgt := 10) d_Y_fillR_24 rfl ?_
    exact g_sub [1, 2, 3, 0] rfl h
theorem E_Y_fillR {l : Launch} {v : gs_V} {n : Nat} {post : gs_S → Prop} {σ : gs_S} {x0 : Nat} {x1 : Int32} {x2 : Int32} {x3 : Int64} (h : G_Y_fillR_0 l v n post σ x0 x1 x2 x3) : gM l v lyC 42 me_Y_fillR (n + 1) [.ref (v.2.2 x0), .int x1, .int x2, .long x3] σ (qV v lyC 42 post) := gM_of (by decide +kernel) (Nat.le_of_ble_eq_true rfl) h
/-! java/util/Arrays.rangeCheck -/
theorem d_Y_rangeCheck_0 : decode me_Y_rangeCheck.2.1 0 = .ok (.iload_n 1, 1) := by decide +kernel
theorem d_Y_rangeCheck_1 : decode me_Y_rangeCheck.2.1 1 = .ok (.iload_n 2, 1) := by decide +kernel
theorem d_Y_rangeCheck_2 : decode me_Y_rangeCheck.2.1 2 = .ok (.if_icmp .le 44, 3) := by decide +kernel
theorem d_Y_rangeCheck_46 : decode me_Y_rangeCheck.2.1 46 = .ok (.iload_n 1, 1) := by decide +kernel
theorem d_Y_rangeCheck_47 : decode me_Y_rangeCheck.2.1 47 = .ok (.ifCond .ge 12, 3) := by decide +kernel
theorem d_Y_rangeCheck_59 : decode me_Y_rangeCheck.2.1 59 = .ok (.iload_n 2, 1) := by decide +kernel
theorem d_Y_rangeCheck_60 : decode me_Y_rangeCheck.2.1 60 = .ok (.iload_n 0, 1) := by decide +kernel
theorem d_Y_rangeCheck_61 : decode me_Y_rangeCheck.2.1 61 = .ok (.if_icmp .le 12, 3) := by decide +kernel
theorem d_Y_rangeCheck_73 : decode me_Y_rangeCheck.2.1 73 = .ok (.return_, 1) := by decide +kernel
abbrev G_Y_rangeCheck_0 (l : Launch) (v : gs_V) (n : Nat) (post : gs_S → Prop) (σ : gs_S) (x0 : Int32) (x1 : Int32) (x2 : Int32) : Prop := gG l v lyC 42 me_Y_rangeCheck n (qV v lyC 42 post) 0 [(0, .int x0), (1, .int x1), (2, .int x2)] [] σ
set_option maxRecDepth 20000 in
set_option maxHeartbeats 1000000 in
theorem T_Y_rangeCheck_0 {l : Launch} {v : gs_V} {n : Nat} {post : gs_S → Prop} {σ : gs_S} {x0 : Int32} {x1 : Int32} {x2 : Int32} (h : ((x1 ≤ x2 → ((0 ≤ x1 → ((x2 ≤ x0 → post σ) ∧ (¬ x2 ≤ x0 → False))) ∧ (¬ 0 ≤ x1 → False))) ∧ (¬ x1 ≤ x2 → False))) : G_Y_rangeCheck_0 l v n post σ x0 x1 x2 := by
  refine g_iload_n d_Y_rangeCheck_0 1 rfl rfl ?_
  refine g_iload_n d_Y_rangeCheck_1 2 rfl rfl ?_
  refine g_icmp_le (tgt := 46) d_Y_rangeCheck_2 rfl (fun hc => ?_) (fun hc => ?_)
  · have h := h.1 hc
    refine g_iload_n d_Y_rangeCheck_46 1 rfl rfl ?_
    refine g_if_ge (tgt := 59) d_Y_rangeCheck_47 rfl (fun hc => ?_) (fun hc => ?_)
    · have h := h.1 hc
      refine g_iload_n d_Y_rangeCheck_59 2 rfl rfl ?_
      refine g_iload_n d_Y_rangeCheck_60 0 rfl rfl ?_
      refine g_icmp_le (tgt := 73) d_Y_rangeCheck_61 rfl (fun hc => ?_) (fun hc => ?_)
      · have h := h.1 hc
        exact g_vret d_Y_rangeCheck_73 rfl h
      · have h := h.2 hc
        exact h.elim
    · have h := h.2 hc
      exact h.elim
  · have h := h.2 hc
    exact h.elim
theorem E_Y_rangeCheck {l : Launch} {v : gs_V} {n : Nat} {post : gs_S → Prop} {σ : gs_S} {x0 : Int32} {x1 : Int32} {x2 : Int32} (h : G_Y_rangeCheck_0 l v n post σ x0 x1 x2) : gM l v lyC 42 me_Y_rangeCheck (n + 1) [.int x0, .int x1, .int x2] σ (qV v lyC 42 post) := gM_of (by decide +kernel) (Nat.le_of_ble_eq_true rfl) h
/-! LineRules$Rule.allNodes -/
theorem d_R_allNodes_0 : decode me_R_allNodes.2.1 0 = .ok (.aload_n 0, 1) := by decide +kernel
theorem d_R_allNodes_1 : decode me_R_allNodes.2.1 1 = .ok (.getfield 42, 3) := by decide +kernel
theorem d_R_allNodes_4 : decode me_R_allNodes.2.1 4 = .ok (.bipush 64, 2) := by decide +kernel
theorem d_R_allNodes_6 : decode me_R_allNodes.2.1 6 = .ok (.if_icmp .ne 9, 3) := by decide +kernel
theorem d_R_allNodes_9 : decode me_R_allNodes.2.1 9 = .ok (.ldc2_w 63, 3) := by decide +kernel
theorem d_R_allNodes_12 : decode me_R_allNodes.2.1 12 = .ok (.goto 11, 3) := by decide +kernel
theorem d_R_allNodes_15 : decode me_R_allNodes.2.1 15 = .ok (.lconst 1, 1) := by decide +kernel
theorem d_R_allNodes_16 : decode me_R_allNodes.2.1 16 = .ok (.aload_n 0, 1) := by decide +kernel
theorem d_R_allNodes_17 : decode me_R_allNodes.2.1 17 = .ok (.getfield 42, 3) := by decide +kernel
theorem d_R_allNodes_20 : decode me_R_allNodes.2.1 20 = .ok (.lshl, 1) := by decide +kernel
theorem d_R_allNodes_21 : decode me_R_allNodes.2.1 21 = .ok (.lconst 1, 1) := by decide +kernel
theorem d_R_allNodes_22 : decode me_R_allNodes.2.1 22 = .ok (.lsub, 1) := by decide +kernel
theorem d_R_allNodes_23 : decode me_R_allNodes.2.1 23 = .ok (.lreturn, 1) := by decide +kernel
abbrev G_R_allNodes_0 (l : Launch) (v : gs_V) (n : Nat) (post : Int64 → gs_S → Prop) (σ : gs_S) : Prop := gG l v lyC 42 me_R_allNodes n (qL v lyC 42 post) 0 [(0, .ref (v.2.2 4))] [] σ
abbrev G_R_allNodes_23 (l : Launch) (v : gs_V) (n : Nat) (post : Int64 → gs_S → Prop) (σ : gs_S) (s0 : Int64) : Prop := gG l v lyC 42 me_R_allNodes n (qL v lyC 42 post) 23 [] [.long s0] σ
set_option maxRecDepth 20000 in
set_option maxHeartbeats 1000000 in
theorem T_R_allNodes_0 {l : Launch} {v : gs_V} {n : Nat} {post : Int64 → gs_S → Prop} {σ : gs_S} (h : ((¬ (σ.1 4 9) = 64 → G_R_allNodes_23 l v n post σ ((jS 1 (σ.1 4 9)) - 1)) ∧ ((σ.1 4 9) = 64 → G_R_allNodes_23 l v n post σ ((-1))))) : G_R_allNodes_0 l v n post σ := by
  refine g_aload_n d_R_allNodes_0 0 rfl rfl ?_
  refine g_getV (x := .int (σ.1 4 9)) d_R_allNodes_1 fl_R_42 (by decide) rfl rfl rfl ?_
  refine g_bipush d_R_allNodes_4 (x := 64) (by decide) ?_
  refine g_icmp_ne (tgt := 15) d_R_allNodes_6 rfl (fun hc => ?_) (fun hc => ?_)
  · have h := h.1 hc
    refine g_lconst d_R_allNodes_15 (x := 1) (by decide) ?_
    refine g_aload_n d_R_allNodes_16 0 rfl rfl ?_
    refine g_getV (x := .int (σ.1 4 9)) d_R_allNodes_17 fl_R_42 (by decide) rfl rfl rfl ?_
    refine g_lshl d_R_allNodes_20 ?_
    refine g_lconst d_R_allNodes_21 (x := 1) (by decide) ?_
    refine g_lsub d_R_allNodes_22 ?_
    exact g_sub [] rfl h
  · have h := h.2 hc
    refine g_ldc2 d_R_allNodes_9 (x := (-1)) (gw_t3 (List.mem_of_getElem? (i := 90) rfl) rfl) ?_
    refine g_goto (tgt := 23) d_R_allNodes_12 rfl ?_
    exact g_sub [] rfl h
set_option maxRecDepth 20000 in
set_option maxHeartbeats 1000000 in
theorem T_R_allNodes_23 {l : Launch} {v : gs_V} {n : Nat} {post : Int64 → gs_S → Prop} {σ : gs_S} {s0 : Int64} (h : post s0 σ) : G_R_allNodes_23 l v n post σ s0 := by
  exact g_lret d_R_allNodes_23 rfl h
theorem E_R_allNodes {l : Launch} {v : gs_V} {n : Nat} {post : Int64 → gs_S → Prop} {σ : gs_S} (h : G_R_allNodes_0 l v n post σ) : gM l v lyC 42 me_R_allNodes (n + 1) [.ref (v.2.2 4)] σ (qL v lyC 42 post) := gM_of (by decide +kernel) (Nat.le_of_ble_eq_true rfl) h
/-! LineRules$Rule.behind -/
theorem d_R_behind_0 : decode me_R_behind.2.1 0 = .ok (.aload_n 0, 1) := by decide +kernel
theorem d_R_behind_1 : decode me_R_behind.2.1 1 = .ok (.getfield 15, 3) := by decide +kernel
theorem d_R_behind_4 : decode me_R_behind.2.1 4 = .ok (.iload_n 1, 1) := by decide +kernel
theorem d_R_behind_5 : decode me_R_behind.2.1 5 = .ok (.iconst 4, 1) := by decide +kernel
theorem d_R_behind_6 : decode me_R_behind.2.1 6 = .ok (.imul, 1) := by decide +kernel
theorem d_R_behind_7 : decode me_R_behind.2.1 7 = .ok (.iload_n 2, 1) := by decide +kernel
theorem d_R_behind_8 : decode me_R_behind.2.1 8 = .ok (.iadd, 1) := by decide +kernel
theorem d_R_behind_9 : decode me_R_behind.2.1 9 = .ok (.laload, 1) := by decide +kernel
theorem d_R_behind_10 : decode me_R_behind.2.1 10 = .ok (.lreturn, 1) := by decide +kernel
abbrev G_R_behind_0 (l : Launch) (v : gs_V) (n : Nat) (post : Int64 → gs_S → Prop) (σ : gs_S) (x1 : Int32) (x2 : Int32) : Prop := gG l v lyC 42 me_R_behind n (qL v lyC 42 post) 0 [(0, .ref (v.2.2 4)), (1, .int x1), (2, .int x2)] [] σ
set_option maxRecDepth 20000 in
set_option maxHeartbeats 1000000 in
theorem T_R_behind_0 {l : Launch} {v : gs_V} {n : Nat} {post : Int64 → gs_S → Prop} {σ : gs_S} {x1 : Int32} {x2 : Int32} (h : vp_in ((x1 * 4) + x2) 256 ∧ post (σ.2.1 6 (((x1 * 4) + x2).toNatClampNeg)) σ) : G_R_behind_0 l v n post σ x1 x2 := by
  refine g_aload_n d_R_behind_0 0 rfl rfl ?_
  refine g_getV (x := .ref (v.2.2 6)) d_R_behind_1 fl_R_15 (by decide) rfl rfl rfl ?_
  refine g_iload_n d_R_behind_4 1 rfl rfl ?_
  refine g_iconst d_R_behind_5 (x := 4) (by decide) ?_
  refine g_imul d_R_behind_6 ?_
  refine g_iload_n d_R_behind_7 2 rfl rfl ?_
  refine g_iadd d_R_behind_8 ?_
  have hi1 := h.1
  have h := h.2
  refine g_lald (x := σ.2.1 6 (((x1 * 4) + x2).toNatClampNeg)) d_R_behind_9 (by decide) rfl hi1 rfl ?_
  exact g_lret d_R_behind_10 rfl h
theorem E_R_behind {l : Launch} {v : gs_V} {n : Nat} {post : Int64 → gs_S → Prop} {σ : gs_S} {x1 : Int32} {x2 : Int32} (h : G_R_behind_0 l v n post σ x1 x2) : gM l v lyC 42 me_R_behind (n + 1) [.ref (v.2.2 4), .int x1, .int x2] σ (qL v lyC 42 post) := gM_of (by decide +kernel) (Nat.le_of_ble_eq_true rfl) h
/-! LineRules$Rule.complete -/
theorem d_R_complete_0 : decode me_R_complete.2.1 0 = .ok (.aload_n 0, 1) := by decide +kernel
theorem d_R_complete_1 : decode me_R_complete.2.1 1 = .ok (.getfield 15, 3) := by decide +kernel
theorem d_R_complete_4 : decode me_R_complete.2.1 4 = .ok (.lconst 0, 1) := by decide +kernel
theorem d_R_complete_5 : decode me_R_complete.2.1 5 = .ok (.invokestatic 49, 3) := by decide +kernel
theorem d_R_complete_8 : decode me_R_complete.2.1 8 = .ok (.iconst 0, 1) := by decide +kernel
theorem d_R_complete_9 : decode me_R_complete.2.1 9 = .ok (.istore_n 1, 1) := by decide +kernel
theorem d_R_complete_10 : decode me_R_complete.2.1 10 = .ok (.iconst 0, 1) := by decide +kernel
theorem d_R_complete_11 : decode me_R_complete.2.1 11 = .ok (.istore_n 2, 1) := by decide +kernel
theorem d_R_complete_12 : decode me_R_complete.2.1 12 = .ok (.iload_n 2, 1) := by decide +kernel
theorem d_R_complete_13 : decode me_R_complete.2.1 13 = .ok (.aload_n 0, 1) := by decide +kernel
theorem d_R_complete_14 : decode me_R_complete.2.1 14 = .ok (.getfield 32, 3) := by decide +kernel
theorem d_R_complete_17 : decode me_R_complete.2.1 17 = .ok (.if_icmp .ge 51, 3) := by decide +kernel
theorem d_R_complete_20 : decode me_R_complete.2.1 20 = .ok (.aload_n 0, 1) := by decide +kernel
theorem d_R_complete_21 : decode me_R_complete.2.1 21 = .ok (.getfield 25, 3) := by decide +kernel
theorem d_R_complete_24 : decode me_R_complete.2.1 24 = .ok (.iload_n 2, 1) := by decide +kernel
theorem d_R_complete_25 : decode me_R_complete.2.1 25 = .ok (.iload_n 1, 1) := by decide +kernel
theorem d_R_complete_26 : decode me_R_complete.2.1 26 = .ok (.iastore, 1) := by decide +kernel
theorem d_R_complete_27 : decode me_R_complete.2.1 27 = .ok (.iconst 0, 1) := by decide +kernel
theorem d_R_complete_28 : decode me_R_complete.2.1 28 = .ok (.istore_n 3, 1) := by decide +kernel
theorem d_R_complete_29 : decode me_R_complete.2.1 29 = .ok (.iload_n 3, 1) := by decide +kernel
theorem d_R_complete_30 : decode me_R_complete.2.1 30 = .ok (.aload_n 0, 1) := by decide +kernel
theorem d_R_complete_31 : decode me_R_complete.2.1 31 = .ok (.getfield 39, 3) := by decide +kernel
theorem d_R_complete_34 : decode me_R_complete.2.1 34 = .ok (.if_icmp .ge 28, 3) := by decide +kernel
theorem d_R_complete_37 : decode me_R_complete.2.1 37 = .ok (.aload_n 0, 1) := by decide +kernel
theorem d_R_complete_38 : decode me_R_complete.2.1 38 = .ok (.getfield 9, 3) := by decide +kernel
theorem d_R_complete_41 : decode me_R_complete.2.1 41 = .ok (.iload_n 3, 1) := by decide +kernel
theorem d_R_complete_42 : decode me_R_complete.2.1 42 = .ok (.iaload, 1) := by decide +kernel
theorem d_R_complete_43 : decode me_R_complete.2.1 43 = .ok (.iload_n 2, 1) := by decide +kernel
theorem d_R_complete_44 : decode me_R_complete.2.1 44 = .ok (.if_icmp .ne 12, 3) := by decide +kernel
theorem d_R_complete_47 : decode me_R_complete.2.1 47 = .ok (.aload_n 0, 1) := by decide +kernel
theorem d_R_complete_48 : decode me_R_complete.2.1 48 = .ok (.iload_n 3, 1) := by decide +kernel
theorem d_R_complete_49 : decode me_R_complete.2.1 49 = .ok (.iload_n 1, 1) := by decide +kernel
theorem d_R_complete_50 : decode me_R_complete.2.1 50 = .ok (.invokevirtual 55, 3) := by decide +kernel
theorem d_R_complete_53 : decode me_R_complete.2.1 53 = .ok (.iinc 1 1, 3) := by decide +kernel
theorem d_R_complete_56 : decode me_R_complete.2.1 56 = .ok (.iinc 3 1, 3) := by decide +kernel
theorem d_R_complete_59 : decode me_R_complete.2.1 59 = .ok (.goto (-30), 3) := by decide +kernel
theorem d_R_complete_62 : decode me_R_complete.2.1 62 = .ok (.iinc 2 1, 3) := by decide +kernel
theorem d_R_complete_65 : decode me_R_complete.2.1 65 = .ok (.goto (-53), 3) := by decide +kernel
theorem d_R_complete_68 : decode me_R_complete.2.1 68 = .ok (.aload_n 0, 1) := by decide +kernel
theorem d_R_complete_69 : decode me_R_complete.2.1 69 = .ok (.getfield 25, 3) := by decide +kernel
theorem d_R_complete_72 : decode me_R_complete.2.1 72 = .ok (.aload_n 0, 1) := by decide +kernel
theorem d_R_complete_73 : decode me_R_complete.2.1 73 = .ok (.getfield 32, 3) := by decide +kernel
theorem d_R_complete_76 : decode me_R_complete.2.1 76 = .ok (.iload_n 1, 1) := by decide +kernel
theorem d_R_complete_77 : decode me_R_complete.2.1 77 = .ok (.iastore, 1) := by decide +kernel
theorem d_R_complete_78 : decode me_R_complete.2.1 78 = .ok (.aload_n 0, 1) := by decide +kernel
theorem d_R_complete_79 : decode me_R_complete.2.1 79 = .ok (.iconst 1, 1) := by decide +kernel
theorem d_R_complete_80 : decode me_R_complete.2.1 80 = .ok (.putfield 28, 3) := by decide +kernel
theorem d_R_complete_83 : decode me_R_complete.2.1 83 = .ok (.return_, 1) := by decide +kernel
abbrev G_R_complete_0 (l : Launch) (v : gs_V) (n : Nat) (post : gs_S → Prop) (σ : gs_S) : Prop := gG l v lyC 42 me_R_complete n (qV v lyC 42 post) 0 [(0, .ref (v.2.2 4))] [] σ
abbrev G_R_complete_12 (l : Launch) (v : gs_V) (n : Nat) (post : gs_S → Prop) (σ : gs_S) (x1 : Int32) (x2 : Int32) : Prop := gG l v lyC 42 me_R_complete n (qV v lyC 42 post) 12 [(0, .ref (v.2.2 4)), (1, .int x1), (2, .int x2)] [] σ
abbrev G_R_complete_29 (l : Launch) (v : gs_V) (n : Nat) (post : gs_S → Prop) (σ : gs_S) (x1 : Int32) (x2 : Int32) (x3 : Int32) : Prop := gG l v lyC 42 me_R_complete n (qV v lyC 42 post) 29 [(0, .ref (v.2.2 4)), (1, .int x1), (2, .int x2), (3, .int x3)] [] σ
abbrev G_R_complete_56 (l : Launch) (v : gs_V) (n : Nat) (post : gs_S → Prop) (σ : gs_S) (x1 : Int32) (x2 : Int32) (x3 : Int32) : Prop := gG l v lyC 42 me_R_complete n (qV v lyC 42 post) 56 [(0, .ref (v.2.2 4)), (1, .int x1), (2, .int x2), (3, .int x3)] [] σ
set_option maxRecDepth 20000 in
set_option maxHeartbeats 1000000 in
theorem T_R_complete_0 {l : Launch} {v : gs_V} {n : Nat} {post : gs_S → Prop} {σ : gs_S} (h : gM l v lyC 42 me_Y_fillJ n [.ref (v.2.2 6), .long 0] σ (qV v lyC 42 (fun σ1 => G_R_complete_12 l v n post σ1 0 0))) : G_R_complete_0 l v n post σ := by
  refine g_aload_n d_R_complete_0 0 rfl rfl ?_
  refine g_getV (x := .ref (v.2.2 6)) d_R_complete_1 fl_R_15 (by decide) rfl rfl rfl ?_
  refine g_lconst d_R_complete_4 (x := 0) (by decide) ?_
  refine g_callSv (av := [.ref (v.2.2 6), .long 0]) (rest := []) d_R_complete_5 Y_Y_fillJ lk_R_49 I_Y_fillJ rfl (Nat.le_of_ble_eq_true rfl) rfl h (fun σ1 h => ?_)
  refine g_iconst d_R_complete_8 (x := 0) (by decide) ?_
  refine g_istore_n (L' := [(1, .int 0), (0, .ref (v.2.2 4))]) d_R_complete_9 rfl (by decide) rfl ?_
  refine g_iconst d_R_complete_10 (x := 0) (by decide) ?_
  refine g_istore_n (L' := [(2, .int 0), (1, .int 0), (0, .ref (v.2.2 4))]) d_R_complete_11 rfl (by decide) rfl ?_
  exact g_sub [2, 1, 0] rfl h
set_option maxRecDepth 20000 in
set_option maxHeartbeats 1000000 in
theorem T_R_complete_12 {l : Launch} {v : gs_V} {n : Nat} {post : gs_S → Prop} {σ : gs_S} {x1 : Int32} {x2 : Int32} (h : (((σ.1 4 6) ≤ x2 → vp_in (σ.1 4 6) 5 ∧ post (gs_pI (gs_pI σ 9 ((σ.1 4 6).toNatClampNeg) x1) 4 5 1)) ∧ (¬ (σ.1 4 6) ≤ x2 → vp_in x2 5 ∧ G_R_complete_29 l v n post (gs_pI σ 9 x2.toNatClampNeg x1) x1 x2 0))) : G_R_complete_12 l v n post σ x1 x2 := by
  refine g_iload_n d_R_complete_12 2 rfl rfl ?_
  refine g_aload_n d_R_complete_13 0 rfl rfl ?_
  refine g_getV (x := .int (σ.1 4 6)) d_R_complete_14 fl_R_32 (by decide) rfl rfl rfl ?_
  refine g_icmp_ge (tgt := 68) d_R_complete_17 rfl (fun hc => ?_) (fun hc => ?_)
  · have h := h.1 hc
    refine g_aload_n d_R_complete_68 0 rfl rfl ?_
    refine g_getV (x := .ref (v.2.2 9)) d_R_complete_69 fl_R_25 (by decide) rfl rfl rfl ?_
    refine g_aload_n d_R_complete_72 0 rfl rfl ?_
    refine g_getV (x := .int (σ.1 4 6)) d_R_complete_73 fl_R_32 (by decide) rfl rfl rfl ?_
    refine g_iload_n d_R_complete_76 1 rfl rfl ?_
    have hi1 := h.1
    have h := h.2
    refine g_iast d_R_complete_77 (by decide) rfl hi1 ?_
    refine g_aload_n d_R_complete_78 0 rfl rfl ?_
    refine g_iconst d_R_complete_79 (x := 1) (by decide) ?_
    refine g_putI d_R_complete_80 fp_R_28 (by decide) rfl rfl ⟨rfl, rfl⟩ ?_
    exact g_vret d_R_complete_83 rfl h
  · have h := h.2 hc
    refine g_aload_n d_R_complete_20 0 rfl rfl ?_
    refine g_getV (x := .ref (v.2.2 9)) d_R_complete_21 fl_R_25 (by decide) rfl rfl rfl ?_
    refine g_iload_n d_R_complete_24 2 rfl rfl ?_
    refine g_iload_n d_R_complete_25 1 rfl rfl ?_
    have hi2 := h.1
    have h := h.2
    refine g_iast d_R_complete_26 (by decide) rfl hi2 ?_
    refine g_iconst d_R_complete_27 (x := 0) (by decide) ?_
    refine g_istore_n (L' := [(3, .int 0), (0, .ref (v.2.2 4)), (1, .int x1), (2, .int x2)]) d_R_complete_28 rfl (by decide) rfl ?_
    exact g_sub [1, 2, 3, 0] rfl h
set_option maxRecDepth 20000 in
set_option maxHeartbeats 1000000 in
theorem T_R_complete_29 {l : Launch} {v : gs_V} {n : Nat} {post : gs_S → Prop} {σ : gs_S} {x1 : Int32} {x2 : Int32} {x3 : Int32} (h : (((σ.1 4 8) ≤ x3 → G_R_complete_12 l v n post σ x1 (x2 + 1)) ∧ (¬ (σ.1 4 8) ≤ x3 → vp_in x3 256 ∧ ((¬ (σ.1 5 x3.toNatClampNeg) = x2 → G_R_complete_56 l v n post σ x1 x2 x3) ∧ ((σ.1 5 x3.toNatClampNeg) = x2 → gM l v lyC 42 me_R_enter n [.ref (v.2.2 4), .int x3, .int x1] σ (qV v lyC 42 (fun σ2 => G_R_complete_56 l v n post σ2 (x1 + 1) x2 x3))))))) : G_R_complete_29 l v n post σ x1 x2 x3 := by
  refine g_iload_n d_R_complete_29 3 rfl rfl ?_
  refine g_aload_n d_R_complete_30 0 rfl rfl ?_
  refine g_getV (x := .int (σ.1 4 8)) d_R_complete_31 fl_R_39 (by decide) rfl rfl rfl ?_
  refine g_icmp_ge (tgt := 62) d_R_complete_34 rfl (fun hc => ?_) (fun hc => ?_)
  · have h := h.1 hc
    refine g_iinc (L' := [(2, .int (x2 + 1)), (0, .ref (v.2.2 4)), (1, .int x1), (3, .int x3)]) d_R_complete_62 2 rfl (by rfl) (by decide) rfl ?_
    refine g_goto (tgt := 12) d_R_complete_65 rfl ?_
    exact g_sub [1, 2, 0] rfl h
  · have h := h.2 hc
    refine g_aload_n d_R_complete_37 0 rfl rfl ?_
    refine g_getV (x := .ref (v.2.2 5)) d_R_complete_38 fl_R_9 (by decide) rfl rfl rfl ?_
    refine g_iload_n d_R_complete_41 3 rfl rfl ?_
    have hi1 := h.1
    have h := h.2
    refine g_iald (x := σ.1 5 x3.toNatClampNeg) d_R_complete_42 (by decide) rfl hi1 rfl ?_
    refine g_iload_n d_R_complete_43 2 rfl rfl ?_
    refine g_icmp_ne (tgt := 56) d_R_complete_44 rfl (fun hc => ?_) (fun hc => ?_)
    · have h := h.1 hc
      exact h
    · have h := h.2 hc
      refine g_aload_n d_R_complete_47 0 rfl rfl ?_
      refine g_iload_n d_R_complete_48 3 rfl rfl ?_
      refine g_iload_n d_R_complete_49 1 rfl rfl ?_
      refine g_callVv (av := [.int x3, .int x1]) (rest := []) d_R_complete_50 Y_R_enter lk_R_55 (by decide) rfl rfl I_R_enter rfl (Nat.le_of_ble_eq_true rfl) rfl h (fun σ2 h => ?_)
      refine g_iinc (L' := [(1, .int (x1 + 1)), (0, .ref (v.2.2 4)), (2, .int x2), (3, .int x3)]) d_R_complete_53 1 rfl (by rfl) (by decide) rfl ?_
      exact g_sub [1, 0, 2, 3] rfl h
set_option maxRecDepth 20000 in
set_option maxHeartbeats 1000000 in
theorem T_R_complete_56 {l : Launch} {v : gs_V} {n : Nat} {post : gs_S → Prop} {σ : gs_S} {x1 : Int32} {x2 : Int32} {x3 : Int32} (h : G_R_complete_29 l v n post σ x1 x2 (x3 + 1)) : G_R_complete_56 l v n post σ x1 x2 x3 := by
  refine g_iinc (L' := [(3, .int (x3 + 1)), (0, .ref (v.2.2 4)), (1, .int x1), (2, .int x2)]) d_R_complete_56 3 rfl (by rfl) (by decide) rfl ?_
  refine g_goto (tgt := 29) d_R_complete_59 rfl ?_
  exact g_sub [1, 2, 3, 0] rfl h
theorem E_R_complete {l : Launch} {v : gs_V} {n : Nat} {post : gs_S → Prop} {σ : gs_S} (h : G_R_complete_0 l v n post σ) : gM l v lyC 42 me_R_complete (n + 1) [.ref (v.2.2 4)] σ (qV v lyC 42 post) := gM_of (by decide +kernel) (Nat.le_of_ble_eq_true rfl) h
/-! LineRules$Rule.end -/
theorem d_R_end_0 : decode me_R_end.2.1 0 = .ok (.iload_n 1, 1) := by decide +kernel
theorem d_R_end_1 : decode me_R_end.2.1 1 = .ok (.aload_n 0, 1) := by decide +kernel
theorem d_R_end_2 : decode me_R_end.2.1 2 = .ok (.getfield 42, 3) := by decide +kernel
theorem d_R_end_5 : decode me_R_end.2.1 5 = .ok (.irem, 1) := by decide +kernel
theorem d_R_end_6 : decode me_R_end.2.1 6 = .ok (.ireturn, 1) := by decide +kernel
abbrev G_R_end_0 (l : Launch) (v : gs_V) (n : Nat) (post : Int32 → gs_S → Prop) (σ : gs_S) (x1 : Int32) : Prop := gG l v lyC 42 me_R_end n (qI v lyC 42 post) 0 [(0, .ref (v.2.2 4)), (1, .int x1)] [] σ
set_option maxRecDepth 20000 in
set_option maxHeartbeats 1000000 in
theorem T_R_end_0 {l : Launch} {v : gs_V} {n : Nat} {post : Int32 → gs_S → Prop} {σ : gs_S} {x1 : Int32} (h : ¬ (σ.1 4 9) = 0 ∧ post (jR x1 (σ.1 4 9)) σ) : G_R_end_0 l v n post σ x1 := by
  refine g_iload_n d_R_end_0 1 rfl rfl ?_
  refine g_aload_n d_R_end_1 0 rfl rfl ?_
  refine g_getV (x := .int (σ.1 4 9)) d_R_end_2 fl_R_42 (by decide) rfl rfl rfl ?_
  refine g_irem d_R_end_5 h.1 ?_
  have h := h.2
  exact g_iret d_R_end_6 rfl h
theorem E_R_end {l : Launch} {v : gs_V} {n : Nat} {post : Int32 → gs_S → Prop} {σ : gs_S} {x1 : Int32} (h : G_R_end_0 l v n post σ x1) : gM l v lyC 42 me_R_end (n + 1) [.ref (v.2.2 4), .int x1] σ (qI v lyC 42 post) := gM_of (by decide +kernel) (Nat.le_of_ble_eq_true rfl) h
/-! LineRules$Rule.enter -/
theorem d_R_enter_0 : decode me_R_enter.2.1 0 = .ok (.aload_n 0, 1) := by decide +kernel
theorem d_R_enter_1 : decode me_R_enter.2.1 1 = .ok (.getfield 19, 3) := by decide +kernel
theorem d_R_enter_4 : decode me_R_enter.2.1 4 = .ok (.iload_n 2, 1) := by decide +kernel
theorem d_R_enter_5 : decode me_R_enter.2.1 5 = .ok (.iload_n 1, 1) := by decide +kernel
theorem d_R_enter_6 : decode me_R_enter.2.1 6 = .ok (.aload_n 0, 1) := by decide +kernel
theorem d_R_enter_7 : decode me_R_enter.2.1 7 = .ok (.getfield 32, 3) := by decide +kernel
theorem d_R_enter_10 : decode me_R_enter.2.1 10 = .ok (.idiv, 1) := by decide +kernel
theorem d_R_enter_11 : decode me_R_enter.2.1 11 = .ok (.iastore, 1) := by decide +kernel
theorem d_R_enter_12 : decode me_R_enter.2.1 12 = .ok (.aload_n 0, 1) := by decide +kernel
theorem d_R_enter_13 : decode me_R_enter.2.1 13 = .ok (.getfield 22, 3) := by decide +kernel
theorem d_R_enter_16 : decode me_R_enter.2.1 16 = .ok (.iload_n 2, 1) := by decide +kernel
theorem d_R_enter_17 : decode me_R_enter.2.1 17 = .ok (.aload_n 0, 1) := by decide +kernel
theorem d_R_enter_18 : decode me_R_enter.2.1 18 = .ok (.iload_n 1, 1) := by decide +kernel
theorem d_R_enter_19 : decode me_R_enter.2.1 19 = .ok (.invokevirtual 59, 3) := by decide +kernel
theorem d_R_enter_22 : decode me_R_enter.2.1 22 = .ok (.iastore, 1) := by decide +kernel
theorem d_R_enter_23 : decode me_R_enter.2.1 23 = .ok (.aload_n 0, 1) := by decide +kernel
theorem d_R_enter_24 : decode me_R_enter.2.1 24 = .ok (.getfield 15, 3) := by decide +kernel
theorem d_R_enter_27 : decode me_R_enter.2.1 27 = .ok (.aload_n 0, 1) := by decide +kernel
theorem d_R_enter_28 : decode me_R_enter.2.1 28 = .ok (.getfield 19, 3) := by decide +kernel
theorem d_R_enter_31 : decode me_R_enter.2.1 31 = .ok (.iload_n 2, 1) := by decide +kernel
theorem d_R_enter_32 : decode me_R_enter.2.1 32 = .ok (.iaload, 1) := by decide +kernel
theorem d_R_enter_33 : decode me_R_enter.2.1 33 = .ok (.iconst 4, 1) := by decide +kernel
theorem d_R_enter_34 : decode me_R_enter.2.1 34 = .ok (.imul, 1) := by decide +kernel
theorem d_R_enter_35 : decode me_R_enter.2.1 35 = .ok (.aload_n 0, 1) := by decide +kernel
theorem d_R_enter_36 : decode me_R_enter.2.1 36 = .ok (.getfield 9, 3) := by decide +kernel
theorem d_R_enter_39 : decode me_R_enter.2.1 39 = .ok (.iload_n 1, 1) := by decide +kernel
theorem d_R_enter_40 : decode me_R_enter.2.1 40 = .ok (.iaload, 1) := by decide +kernel
theorem d_R_enter_41 : decode me_R_enter.2.1 41 = .ok (.iadd, 1) := by decide +kernel
theorem d_R_enter_42 : decode me_R_enter.2.1 42 = .ok (.dup2, 1) := by decide +kernel
theorem d_R_enter_43 : decode me_R_enter.2.1 43 = .ok (.laload, 1) := by decide +kernel
theorem d_R_enter_44 : decode me_R_enter.2.1 44 = .ok (.lconst 1, 1) := by decide +kernel
theorem d_R_enter_45 : decode me_R_enter.2.1 45 = .ok (.aload_n 0, 1) := by decide +kernel
theorem d_R_enter_46 : decode me_R_enter.2.1 46 = .ok (.getfield 22, 3) := by decide +kernel
theorem d_R_enter_49 : decode me_R_enter.2.1 49 = .ok (.iload_n 2, 1) := by decide +kernel
theorem d_R_enter_50 : decode me_R_enter.2.1 50 = .ok (.iaload, 1) := by decide +kernel
theorem d_R_enter_51 : decode me_R_enter.2.1 51 = .ok (.lshl, 1) := by decide +kernel
theorem d_R_enter_52 : decode me_R_enter.2.1 52 = .ok (.lor, 1) := by decide +kernel
theorem d_R_enter_53 : decode me_R_enter.2.1 53 = .ok (.lastore, 1) := by decide +kernel
theorem d_R_enter_54 : decode me_R_enter.2.1 54 = .ok (.return_, 1) := by decide +kernel
abbrev G_R_enter_0 (l : Launch) (v : gs_V) (n : Nat) (post : gs_S → Prop) (σ : gs_S) (x1 : Int32) (x2 : Int32) : Prop := gG l v lyC 42 me_R_enter n (qV v lyC 42 post) 0 [(0, .ref (v.2.2 4)), (1, .int x1), (2, .int x2)] [] σ
set_option maxRecDepth 20000 in
set_option maxHeartbeats 1000000 in
theorem T_R_enter_0 {l : Launch} {v : gs_V} {n : Nat} {post : gs_S → Prop} {σ : gs_S} {x1 : Int32} {x2 : Int32} (h : ¬ (σ.1 4 6) = 0 ∧ vp_in x2 256 ∧ gM l v lyC 42 me_R_end n [.ref (v.2.2 4), .int x1] (gs_pI σ 7 x2.toNatClampNeg (x1 / (σ.1 4 6))) (qI v lyC 42 (fun r2 σ2 => vp_in x2 256 ∧ vp_in x2 256 ∧ vp_in x1 256 ∧ vp_in (((σ2.1 7 x2.toNatClampNeg) * 4) + (σ2.1 5 x1.toNatClampNeg)) 256 ∧ vp_in x2 256 ∧ vp_in (((σ2.1 7 x2.toNatClampNeg) * 4) + (σ2.1 5 x1.toNatClampNeg)) 256 ∧ post (gs_pL (gs_pI σ2 8 x2.toNatClampNeg r2) 6 ((((σ2.1 7 x2.toNatClampNeg) * 4) + (σ2.1 5 x1.toNatClampNeg)).toNatClampNeg) ((σ2.2.1 6 ((((σ2.1 7 x2.toNatClampNeg) * 4) + (σ2.1 5 x1.toNatClampNeg)).toNatClampNeg)) ||| (jS 1 ((gs_pI σ2 8 x2.toNatClampNeg r2).1 8 x2.toNatClampNeg))))))) : G_R_enter_0 l v n post σ x1 x2 := by
  refine g_aload_n d_R_enter_0 0 rfl rfl ?_
  refine g_getV (x := .ref (v.2.2 7)) d_R_enter_1 fl_R_19 (by decide) rfl rfl rfl ?_
  refine g_iload_n d_R_enter_4 2 rfl rfl ?_
  refine g_iload_n d_R_enter_5 1 rfl rfl ?_
  refine g_aload_n d_R_enter_6 0 rfl rfl ?_
  refine g_getV (x := .int (σ.1 4 6)) d_R_enter_7 fl_R_32 (by decide) rfl rfl rfl ?_
  refine g_idiv d_R_enter_10 h.1 ?_
  have h := h.2
  have hi1 := h.1
  have h := h.2
  refine g_iast d_R_enter_11 (by decide) rfl hi1 ?_
  refine g_aload_n d_R_enter_12 0 rfl rfl ?_
  refine g_getV (x := .ref (v.2.2 8)) d_R_enter_13 fl_R_22 (by decide) rfl rfl rfl ?_
  refine g_iload_n d_R_enter_16 2 rfl rfl ?_
  refine g_aload_n d_R_enter_17 0 rfl rfl ?_
  refine g_iload_n d_R_enter_18 1 rfl rfl ?_
  refine g_callVi (av := [.int x1]) (rest := [.int x2, .ref (v.2.2 8)]) d_R_enter_19 Y_R_end lk_R_59 (by decide) rfl rfl I_R_end rfl (Nat.le_of_ble_eq_true rfl) rfl h (fun r2 σ2 h => ?_)
  have hi3 := h.1
  have h := h.2
  refine g_iast d_R_enter_22 (by decide) rfl hi3 ?_
  refine g_aload_n d_R_enter_23 0 rfl rfl ?_
  refine g_getV (x := .ref (v.2.2 6)) d_R_enter_24 fl_R_15 (by decide) rfl rfl rfl ?_
  refine g_aload_n d_R_enter_27 0 rfl rfl ?_
  refine g_getV (x := .ref (v.2.2 7)) d_R_enter_28 fl_R_19 (by decide) rfl rfl rfl ?_
  refine g_iload_n d_R_enter_31 2 rfl rfl ?_
  have hi4 := h.1
  have h := h.2
  refine g_iald (x := σ2.1 7 x2.toNatClampNeg) d_R_enter_32 (by decide) rfl hi4 rfl ?_
  refine g_iconst d_R_enter_33 (x := 4) (by decide) ?_
  refine g_imul d_R_enter_34 ?_
  refine g_aload_n d_R_enter_35 0 rfl rfl ?_
  refine g_getV (x := .ref (v.2.2 5)) d_R_enter_36 fl_R_9 (by decide) rfl rfl rfl ?_
  refine g_iload_n d_R_enter_39 1 rfl rfl ?_
  have hi5 := h.1
  have h := h.2
  refine g_iald (x := σ2.1 5 x1.toNatClampNeg) d_R_enter_40 (by decide) rfl hi5 rfl ?_
  refine g_iadd d_R_enter_41 ?_
  refine g_dup2_11 d_R_enter_42 rfl rfl ?_
  have hi6 := h.1
  have h := h.2
  refine g_lald (x := σ2.2.1 6 ((((σ2.1 7 x2.toNatClampNeg) * 4) + (σ2.1 5 x1.toNatClampNeg)).toNatClampNeg)) d_R_enter_43 (by decide) rfl hi6 rfl ?_
  refine g_lconst d_R_enter_44 (x := 1) (by decide) ?_
  refine g_aload_n d_R_enter_45 0 rfl rfl ?_
  refine g_getV (x := .ref (v.2.2 8)) d_R_enter_46 fl_R_22 (by decide) rfl rfl rfl ?_
  refine g_iload_n d_R_enter_49 2 rfl rfl ?_
  have hi7 := h.1
  have h := h.2
  refine g_iald (x := (gs_pI σ2 8 x2.toNatClampNeg r2).1 8 x2.toNatClampNeg) d_R_enter_50 (by decide) rfl hi7 rfl ?_
  refine g_lshl d_R_enter_51 ?_
  refine g_lor d_R_enter_52 ?_
  have hi8 := h.1
  have h := h.2
  refine g_last d_R_enter_53 (by decide) rfl hi8 ?_
  exact g_vret d_R_enter_54 rfl h
theorem E_R_enter {l : Launch} {v : gs_V} {n : Nat} {post : gs_S → Prop} {σ : gs_S} {x1 : Int32} {x2 : Int32} (h : G_R_enter_0 l v n post σ x1 x2) : gM l v lyC 42 me_R_enter (n + 1) [.ref (v.2.2 4), .int x1, .int x2] σ (qV v lyC 42 post) := gM_of (by decide +kernel) (Nat.le_of_ble_eq_true rfl) h
/-! LineRules$Rule.hasState -/
theorem d_R_hasState_0 : decode me_R_hasState.2.1 0 = .ok (.iload_n 1, 1) := by decide +kernel
theorem d_R_hasState_1 : decode me_R_hasState.2.1 1 = .ok (.ifCond .lt 15, 3) := by decide +kernel
theorem d_R_hasState_4 : decode me_R_hasState.2.1 4 = .ok (.iload_n 1, 1) := by decide +kernel
theorem d_R_hasState_5 : decode me_R_hasState.2.1 5 = .ok (.aload_n 0, 1) := by decide +kernel
theorem d_R_hasState_6 : decode me_R_hasState.2.1 6 = .ok (.getfield 32, 3) := by decide +kernel
theorem d_R_hasState_9 : decode me_R_hasState.2.1 9 = .ok (.if_icmp .ge 7, 3) := by decide +kernel
theorem d_R_hasState_12 : decode me_R_hasState.2.1 12 = .ok (.iconst 1, 1) := by decide +kernel
theorem d_R_hasState_13 : decode me_R_hasState.2.1 13 = .ok (.goto 4, 3) := by decide +kernel
theorem d_R_hasState_16 : decode me_R_hasState.2.1 16 = .ok (.iconst 0, 1) := by decide +kernel
theorem d_R_hasState_17 : decode me_R_hasState.2.1 17 = .ok (.ireturn, 1) := by decide +kernel
abbrev G_R_hasState_0 (l : Launch) (v : gs_V) (n : Nat) (post : Int32 → gs_S → Prop) (σ : gs_S) (x1 : Int32) : Prop := gG l v lyC 42 me_R_hasState n (qI v lyC 42 post) 0 [(0, .ref (v.2.2 4)), (1, .int x1)] [] σ
abbrev G_R_hasState_16 (l : Launch) (v : gs_V) (n : Nat) (post : Int32 → gs_S → Prop) (σ : gs_S) : Prop := gG l v lyC 42 me_R_hasState n (qI v lyC 42 post) 16 [] [] σ
abbrev G_R_hasState_17 (l : Launch) (v : gs_V) (n : Nat) (post : Int32 → gs_S → Prop) (σ : gs_S) (s0 : Int32) : Prop := gG l v lyC 42 me_R_hasState n (qI v lyC 42 post) 17 [] [.int s0] σ
set_option maxRecDepth 20000 in
set_option maxHeartbeats 1000000 in
theorem T_R_hasState_0 {l : Launch} {v : gs_V} {n : Nat} {post : Int32 → gs_S → Prop} {σ : gs_S} {x1 : Int32} (h : ((x1 < 0 → G_R_hasState_16 l v n post σ) ∧ (¬ x1 < 0 → (((σ.1 4 6) ≤ x1 → G_R_hasState_16 l v n post σ) ∧ (¬ (σ.1 4 6) ≤ x1 → G_R_hasState_17 l v n post σ 1))))) : G_R_hasState_0 l v n post σ x1 := by
  refine g_iload_n d_R_hasState_0 1 rfl rfl ?_
  refine g_if_lt (tgt := 16) d_R_hasState_1 rfl (fun hc => ?_) (fun hc => ?_)
  · have h := h.1 hc
    exact g_sub [] rfl h
  · have h := h.2 hc
    refine g_iload_n d_R_hasState_4 1 rfl rfl ?_
    refine g_aload_n d_R_hasState_5 0 rfl rfl ?_
    refine g_getV (x := .int (σ.1 4 6)) d_R_hasState_6 fl_R_32 (by decide) rfl rfl rfl ?_
    refine g_icmp_ge (tgt := 16) d_R_hasState_9 rfl (fun hc => ?_) (fun hc => ?_)
    · have h := h.1 hc
      exact g_sub [] rfl h
    · have h := h.2 hc
      refine g_iconst d_R_hasState_12 (x := 1) (by decide) ?_
      refine g_goto (tgt := 17) d_R_hasState_13 rfl ?_
      exact g_sub [] rfl h
set_option maxRecDepth 20000 in
set_option maxHeartbeats 1000000 in
theorem T_R_hasState_16 {l : Launch} {v : gs_V} {n : Nat} {post : Int32 → gs_S → Prop} {σ : gs_S} (h : G_R_hasState_17 l v n post σ 0) : G_R_hasState_16 l v n post σ := by
  refine g_iconst d_R_hasState_16 (x := 0) (by decide) ?_
  exact h
set_option maxRecDepth 20000 in
set_option maxHeartbeats 1000000 in
theorem T_R_hasState_17 {l : Launch} {v : gs_V} {n : Nat} {post : Int32 → gs_S → Prop} {σ : gs_S} {s0 : Int32} (h : narrow .boolean (.int s0) = .int s0 ∧ post s0 σ) : G_R_hasState_17 l v n post σ s0 := by
  exact g_zret d_R_hasState_17 rfl h.1 h.2
theorem E_R_hasState {l : Launch} {v : gs_V} {n : Nat} {post : Int32 → gs_S → Prop} {σ : gs_S} {x1 : Int32} (h : G_R_hasState_0 l v n post σ x1) : gM l v lyC 42 me_R_hasState (n + 1) [.ref (v.2.2 4), .int x1] σ (qI v lyC 42 post) := gM_of (by decide +kernel) (Nat.le_of_ble_eq_true rfl) h
/-! LineRules$Rule.left -/
theorem d_R_left_0 : decode me_R_left.2.1 0 = .ok (.aload_n 0, 1) := by decide +kernel
theorem d_R_left_1 : decode me_R_left.2.1 1 = .ok (.getfield 36, 3) := by decide +kernel
theorem d_R_left_4 : decode me_R_left.2.1 4 = .ok (.iconst 1, 1) := by decide +kernel
theorem d_R_left_5 : decode me_R_left.2.1 5 = .ok (.isub, 1) := by decide +kernel
theorem d_R_left_6 : decode me_R_left.2.1 6 = .ok (.iconst 2, 1) := by decide +kernel
theorem d_R_left_7 : decode me_R_left.2.1 7 = .ok (.idiv, 1) := by decide +kernel
theorem d_R_left_8 : decode me_R_left.2.1 8 = .ok (.ireturn, 1) := by decide +kernel
abbrev G_R_left_0 (l : Launch) (v : gs_V) (n : Nat) (post : Int32 → gs_S → Prop) (σ : gs_S) : Prop := gG l v lyC 42 me_R_left n (qI v lyC 42 post) 0 [(0, .ref (v.2.2 4))] [] σ
set_option maxRecDepth 20000 in
set_option maxHeartbeats 1000000 in
theorem T_R_left_0 {l : Launch} {v : gs_V} {n : Nat} {post : Int32 → gs_S → Prop} {σ : gs_S} (h : post (((σ.1 4 7) - 1) / 2) σ) : G_R_left_0 l v n post σ := by
  refine g_aload_n d_R_left_0 0 rfl rfl ?_
  refine g_getV (x := .int (σ.1 4 7)) d_R_left_1 fl_R_36 (by decide) rfl rfl rfl ?_
  refine g_iconst d_R_left_4 (x := 1) (by decide) ?_
  refine g_isub d_R_left_5 ?_
  refine g_iconst d_R_left_6 (x := 2) (by decide) ?_
  refine g_idiv d_R_left_7 (by decide) ?_
  exact g_iret d_R_left_8 rfl h
theorem E_R_left {l : Launch} {v : gs_V} {n : Nat} {post : Int32 → gs_S → Prop} {σ : gs_S} (h : G_R_left_0 l v n post σ) : gM l v lyC 42 me_R_left (n + 1) [.ref (v.2.2 4)] σ (qI v lyC 42 post) := gM_of (by decide +kernel) (Nat.le_of_ble_eq_true rfl) h
/-! LineRules$Rule.shape -/
theorem d_R_shape_0 : decode me_R_shape.2.1 0 = .ok (.aload_n 0, 1) := by decide +kernel
theorem d_R_shape_1 : decode me_R_shape.2.1 1 = .ok (.iload_n 1, 1) := by decide +kernel
theorem d_R_shape_2 : decode me_R_shape.2.1 2 = .ok (.putfield 32, 3) := by decide +kernel
theorem d_R_shape_5 : decode me_R_shape.2.1 5 = .ok (.aload_n 0, 1) := by decide +kernel
theorem d_R_shape_6 : decode me_R_shape.2.1 6 = .ok (.iload_n 2, 1) := by decide +kernel
theorem d_R_shape_7 : decode me_R_shape.2.1 7 = .ok (.putfield 36, 3) := by decide +kernel
theorem d_R_shape_10 : decode me_R_shape.2.1 10 = .ok (.aload_n 0, 1) := by decide +kernel
theorem d_R_shape_11 : decode me_R_shape.2.1 11 = .ok (.iload_n 1, 1) := by decide +kernel
theorem d_R_shape_12 : decode me_R_shape.2.1 12 = .ok (.iload_n 2, 1) := by decide +kernel
theorem d_R_shape_13 : decode me_R_shape.2.1 13 = .ok (.iconst 1, 1) := by decide +kernel
theorem d_R_shape_14 : decode me_R_shape.2.1 14 = .ok (.isub, 1) := by decide +kernel
theorem d_R_shape_15 : decode me_R_shape.2.1 15 = .ok (.invokestatic 45, 3) := by decide +kernel
theorem d_R_shape_18 : decode me_R_shape.2.1 18 = .ok (.putfield 42, 3) := by decide +kernel
theorem d_R_shape_21 : decode me_R_shape.2.1 21 = .ok (.aload_n 0, 1) := by decide +kernel
theorem d_R_shape_22 : decode me_R_shape.2.1 22 = .ok (.aload_n 0, 1) := by decide +kernel
theorem d_R_shape_23 : decode me_R_shape.2.1 23 = .ok (.getfield 42, 3) := by decide +kernel
theorem d_R_shape_26 : decode me_R_shape.2.1 26 = .ok (.iload_n 1, 1) := by decide +kernel
theorem d_R_shape_27 : decode me_R_shape.2.1 27 = .ok (.imul, 1) := by decide +kernel
theorem d_R_shape_28 : decode me_R_shape.2.1 28 = .ok (.putfield 39, 3) := by decide +kernel
theorem d_R_shape_31 : decode me_R_shape.2.1 31 = .ok (.return_, 1) := by decide +kernel
abbrev G_R_shape_0 (l : Launch) (v : gs_V) (n : Nat) (post : gs_S → Prop) (σ : gs_S) (x1 : Int32) (x2 : Int32) : Prop := gG l v lyC 42 me_R_shape n (qV v lyC 42 post) 0 [(0, .ref (v.2.2 4)), (1, .int x1), (2, .int x2)] [] σ
set_option maxRecDepth 20000 in
set_option maxHeartbeats 1000000 in
theorem T_R_shape_0 {l : Launch} {v : gs_V} {n : Nat} {post : gs_S → Prop} {σ : gs_S} {x1 : Int32} {x2 : Int32} (h : gM l v lyC 42 me_A_power n [.int x1, .int (x2 - 1)] (gs_pI (gs_pI σ 4 6 x1) 4 7 x2) (qI v lyC 42 (fun r1 σ1 => post (gs_pI (gs_pI σ1 4 9 r1) 4 8 (r1 * x1))))) : G_R_shape_0 l v n post σ x1 x2 := by
  refine g_aload_n d_R_shape_0 0 rfl rfl ?_
  refine g_iload_n d_R_shape_1 1 rfl rfl ?_
  refine g_putI d_R_shape_2 fp_R_32 (by decide) rfl rfl ⟨rfl, rfl⟩ ?_
  refine g_aload_n d_R_shape_5 0 rfl rfl ?_
  refine g_iload_n d_R_shape_6 2 rfl rfl ?_
  refine g_putI d_R_shape_7 fp_R_36 (by decide) rfl rfl ⟨rfl, rfl⟩ ?_
  refine g_aload_n d_R_shape_10 0 rfl rfl ?_
  refine g_iload_n d_R_shape_11 1 rfl rfl ?_
  refine g_iload_n d_R_shape_12 2 rfl rfl ?_
  refine g_iconst d_R_shape_13 (x := 1) (by decide) ?_
  refine g_isub d_R_shape_14 ?_
  refine g_callSNi (av := [.int x1, .int (x2 - 1)]) (rest := [.ref (v.2.2 4)]) d_R_shape_15 Y_A_power lk_R_45 I_A_power rfl (Nat.le_of_ble_eq_true rfl) rfl h (fun r1 σ1 h => ?_)
  refine g_putI d_R_shape_18 fp_R_42 (by decide) rfl rfl ⟨rfl, rfl⟩ ?_
  refine g_aload_n d_R_shape_21 0 rfl rfl ?_
  refine g_aload_n d_R_shape_22 0 rfl rfl ?_
  refine g_getV (x := .int r1) d_R_shape_23 fl_R_42 (by decide) rfl rfl rfl ?_
  refine g_iload_n d_R_shape_26 1 rfl rfl ?_
  refine g_imul d_R_shape_27 ?_
  refine g_putI d_R_shape_28 fp_R_39 (by decide) rfl rfl ⟨rfl, rfl⟩ ?_
  exact g_vret d_R_shape_31 rfl h
theorem E_R_shape {l : Launch} {v : gs_V} {n : Nat} {post : gs_S → Prop} {σ : gs_S} {x1 : Int32} {x2 : Int32} (h : G_R_shape_0 l v n post σ x1 x2) : gM l v lyC 42 me_R_shape (n + 1) [.ref (v.2.2 4), .int x1, .int x2] σ (qV v lyC 42 post) := gM_of (by decide +kernel) (Nat.le_of_ble_eq_true rfl) h
/-! LineRules$Ring.clear -/
theorem d_C_clear_0 : decode me_C_clear.2.1 0 = .ok (.aload_n 0, 1) := by decide +kernel
theorem d_C_clear_1 : decode me_C_clear.2.1 1 = .ok (.getfield 9, 3) := by decide +kernel
theorem d_C_clear_4 : decode me_C_clear.2.1 4 = .ok (.iconst 0, 1) := by decide +kernel
theorem d_C_clear_5 : decode me_C_clear.2.1 5 = .ok (.invokestatic 32, 3) := by decide +kernel
theorem d_C_clear_8 : decode me_C_clear.2.1 8 = .ok (.return_, 1) := by decide +kernel
abbrev G_C_clear_0 (l : Launch) (v : gs_V) (n : Nat) (post : gs_S → Prop) (σ : gs_S) : Prop := gG l v lyC 42 me_C_clear n (qV v lyC 42 post) 0 [(0, .ref (v.2.2 10))] [] σ
set_option maxRecDepth 20000 in
set_option maxHeartbeats 1000000 in
theorem T_C_clear_0 {l : Launch} {v : gs_V} {n : Nat} {post : gs_S → Prop} {σ : gs_S} (h : gM l v lyC 42 me_Y_fillI n [.ref (v.2.2 11), .int 0] σ (qV v lyC 42 (fun σ1 => post σ1))) : G_C_clear_0 l v n post σ := by
  refine g_aload_n d_C_clear_0 0 rfl rfl ?_
  refine g_getV (x := .ref (v.2.2 11)) d_C_clear_1 fl_C_9 (by decide) rfl rfl rfl ?_
  refine g_iconst d_C_clear_4 (x := 0) (by decide) ?_
  refine g_callSv (av := [.ref (v.2.2 11), .int 0]) (rest := []) d_C_clear_5 Y_Y_fillI lk_C_32 I_Y_fillI rfl (Nat.le_of_ble_eq_true rfl) rfl h (fun σ1 h => ?_)
  exact g_vret d_C_clear_8 rfl h
theorem E_C_clear {l : Launch} {v : gs_V} {n : Nat} {post : gs_S → Prop} {σ : gs_S} (h : G_C_clear_0 l v n post σ) : gM l v lyC 42 me_C_clear (n + 1) [.ref (v.2.2 10)] σ (qV v lyC 42 post) := gM_of (by decide +kernel) (Nat.le_of_ble_eq_true rfl) h
/-! LineRules$Ring.countOf -/
theorem d_C_countOf_0 : decode me_C_countOf.2.1 0 = .ok (.iconst 0, 1) := by decide +kernel
theorem d_C_countOf_1 : decode me_C_countOf.2.1 1 = .ok (.istore_n 2, 1) := by decide +kernel
theorem d_C_countOf_2 : decode me_C_countOf.2.1 2 = .ok (.iconst 0, 1) := by decide +kernel
theorem d_C_countOf_3 : decode me_C_countOf.2.1 3 = .ok (.istore_n 3, 1) := by decide +kernel
theorem d_C_countOf_4 : decode me_C_countOf.2.1 4 = .ok (.iload_n 3, 1) := by decide +kernel
theorem d_C_countOf_5 : decode me_C_countOf.2.1 5 = .ok (.aload_n 0, 1) := by decide +kernel
theorem d_C_countOf_6 : decode me_C_countOf.2.1 6 = .ok (.getfield 15, 3) := by decide +kernel
theorem d_C_countOf_9 : decode me_C_countOf.2.1 9 = .ok (.if_icmp .ge 22, 3) := by decide +kernel
theorem d_C_countOf_12 : decode me_C_countOf.2.1 12 = .ok (.aload_n 0, 1) := by decide +kernel
theorem d_C_countOf_13 : decode me_C_countOf.2.1 13 = .ok (.getfield 9, 3) := by decide +kernel
theorem d_C_countOf_16 : decode me_C_countOf.2.1 16 = .ok (.iload_n 3, 1) := by decide +kernel
theorem d_C_countOf_17 : decode me_C_countOf.2.1 17 = .ok (.iaload, 1) := by decide +kernel
theorem d_C_countOf_18 : decode me_C_countOf.2.1 18 = .ok (.iload_n 1, 1) := by decide +kernel
theorem d_C_countOf_19 : decode me_C_countOf.2.1 19 = .ok (.if_icmp .ne 6, 3) := by decide +kernel
theorem d_C_countOf_22 : decode me_C_countOf.2.1 22 = .ok (.iinc 2 1, 3) := by decide +kernel
theorem d_C_countOf_25 : decode me_C_countOf.2.1 25 = .ok (.iinc 3 1, 3) := by decide +kernel
theorem d_C_countOf_28 : decode me_C_countOf.2.1 28 = .ok (.goto (-24), 3) := by decide +kernel
theorem d_C_countOf_31 : decode me_C_countOf.2.1 31 = .ok (.iload_n 2, 1) := by decide +kernel
theorem d_C_countOf_32 : decode me_C_countOf.2.1 32 = .ok (.ireturn, 1) := by decide +kernel
abbrev G_C_countOf_0 (l : Launch) (v : gs_V) (n : Nat) (post : Int32 → gs_S → Prop) (σ : gs_S) (x1 : Int32) : Prop := gG l v lyC 42 me_C_countOf n (qI v lyC 42 post) 0 [(0, .ref (v.2.2 10)), (1, .int x1)] [] σ
abbrev G_C_countOf_4 (l : Launch) (v : gs_V) (n : Nat) (post : Int32 → gs_S → Prop) (σ : gs_S) (x1 : Int32) (x2 : Int32) (x3 : Int32) : Prop := gG l v lyC 42 me_C_countOf n (qI v lyC 42 post) 4 [(0, .ref (v.2.2 10)), (1, .int x1), (2, .int x2), (3, .int x3)] [] σ
abbrev G_C_countOf_25 (l : Launch) (v : gs_V) (n : Nat) (post : Int32 → gs_S → Prop) (σ : gs_S) (x1 : Int32) (x2 : Int32) (x3 : Int32) : Prop := gG l v lyC 42 me_C_countOf n (qI v lyC 42 post) 25 [(0, .ref (v.2.2 10)), (1, .int x1), (2, .int x2), (3, .int x3)] [] σ
set_option maxRecDepth 20000 in
set_option maxHeartbeats 1000000 in
theorem T_C_countOf_0 {l : Launch} {v : gs_V} {n : Nat} {post : Int32 → gs_S → Prop} {σ : gs_S} {x1 : Int32} (h : G_C_countOf_4 l v n post σ x1 0 0) : G_C_countOf_0 l v n post σ x1 := by
  refine g_iconst d_C_countOf_0 (x := 0) (by decide) ?_
  refine g_istore_n (L' := [(2, .int 0), (0, .ref (v.2.2 10)), (1, .int x1)]) d_C_countOf_1 rfl (by decide) rfl ?_
  refine g_iconst d_C_countOf_2 (x := 0) (by decide) ?_
  refine g_istore_n (L' := [(3, .int 0), (2, .int 0), (0, .ref (v.2.2 10)), (1, .int x1)]) d_C_countOf_3 rfl (by decide) rfl ?_
  exact g_sub [2, 3, 1, 0] rfl h
set_option maxRecDepth 20000 in
set_option maxHeartbeats 1000000 in
theorem T_C_countOf_4 {l : Launch} {v : gs_V} {n : Nat} {post : Int32 → gs_S → Prop} {σ : gs_S} {x1 : Int32} {x2 : Int32} {x3 : Int32} (h : (((σ.1 10 1) ≤ x3 → post x2 σ) ∧ (¬ (σ.1 10 1) ≤ x3 → vp_in x3 64 ∧ ((¬ (σ.1 11 x3.toNatClampNeg) = x1 → G_C_countOf_25 l v n post σ x1 x2 x3) ∧ ((σ.1 11 x3.toNatClampNeg) = x1 → G_C_countOf_25 l v n post σ x1 (x2 + 1) x3))))) : G_C_countOf_4 l v n post σ x1 x2 x3 := by
  refine g_iload_n d_C_countOf_4 3 rfl rfl ?_
  refine g_aload_n d_C_countOf_5 0 rfl rfl ?_
  refine g_getV (x := .int (σ.1 10 1)) d_C_countOf_6 fl_C_15 (by decide) rfl rfl rfl ?_
  refine g_icmp_ge (tgt := 31) d_C_countOf_9 rfl (fun hc => ?_) (fun hc => ?_)
  · have h := h.1 hc
    refine g_iload_n d_C_countOf_31 2 rfl rfl ?_
    exact g_iret d_C_countOf_32 rfl h
  · have h := h.2 hc
    refine g_aload_n d_C_countOf_12 0 rfl rfl ?_
    refine g_getV (x := .ref (v.2.2 11)) d_C_countOf_13 fl_C_9 (by decide) rfl rfl rfl ?_
    refine g_iload_n d_C_countOf_16 3 rfl rfl ?_
    have hi1 := h.1
    have h := h.2
    refine g_iald (x := σ.1 11 x3.toNatClampNeg) d_C_countOf_17 (by decide) rfl hi1 rfl ?_
    refine g_iload_n d_C_countOf_18 1 rfl rfl ?_
    refine g_icmp_ne (tgt := 25) d_C_countOf_19 rfl (fun hc => ?_) (fun hc => ?_)
    · have h := h.1 hc
      exact h
    · have h := h.2 hc
      refine g_iinc (L' := [(2, .int (x2 + 1)), (0, .ref (v.2.2 10)), (1, .int x1), (3, .int x3)]) d_C_countOf_22 2 rfl (by rfl) (by decide) rfl ?_
      exact g_sub [1, 2, 0, 3] rfl h
set_option maxRecDepth 20000 in
set_option maxHeartbeats 1000000 in
theorem T_C_countOf_25 {l : Launch} {v : gs_V} {n : Nat} {post : Int32 → gs_S → Prop} {σ : gs_S} {x1 : Int32} {x2 : Int32} {x3 : Int32} (h : G_C_countOf_4 l v n post σ x1 x2 (x3 + 1)) : G_C_countOf_25 l v n post σ x1 x2 x3 := by
  refine g_iinc (L' := [(3, .int (x3 + 1)), (0, .ref (v.2.2 10)), (1, .int x1), (2, .int x2)]) d_C_countOf_25 3 rfl (by rfl) (by decide) rfl ?_
  refine g_goto (tgt := 4) d_C_countOf_28 rfl ?_
  exact g_sub [1, 2, 3, 0] rfl h
theorem E_C_countOf {l : Launch} {v : gs_V} {n : Nat} {post : Int32 → gs_S → Prop} {σ : gs_S} {x1 : Int32} (h : G_C_countOf_0 l v n post σ x1) : gM l v lyC 42 me_C_countOf (n + 1) [.ref (v.2.2 10), .int x1] σ (qI v lyC 42 post) := gM_of (by decide +kernel) (Nat.le_of_ble_eq_true rfl) h
/-! LineRules$Ring.has -/
theorem d_C_has_0 : decode me_C_has.2.1 0 = .ok (.iload_n 1, 1) := by decide +kernel
theorem d_C_has_1 : decode me_C_has.2.1 1 = .ok (.ifCond .lt 15, 3) := by decide +kernel
theorem d_C_has_4 : decode me_C_has.2.1 4 = .ok (.iload_n 1, 1) := by decide +kernel
theorem d_C_has_5 : decode me_C_has.2.1 5 = .ok (.aload_n 0, 1) := by decide +kernel
theorem d_C_has_6 : decode me_C_has.2.1 6 = .ok (.getfield 15, 3) := by decide +kernel
theorem d_C_has_9 : decode me_C_has.2.1 9 = .ok (.if_icmp .ge 7, 3) := by decide +kernel
theorem d_C_has_12 : decode me_C_has.2.1 12 = .ok (.iconst 1, 1) := by decide +kernel
theorem d_C_has_13 : decode me_C_has.2.1 13 = .ok (.goto 4, 3) := by decide +kernel
theorem d_C_has_16 : decode me_C_has.2.1 16 = .ok (.iconst 0, 1) := by decide +kernel
theorem d_C_has_17 : decode me_C_has.2.1 17 = .ok (.ireturn, 1) := by decide +kernel
abbrev G_C_has_0 (l : Launch) (v : gs_V) (n : Nat) (post : Int32 → gs_S → Prop) (σ : gs_S) (x1 : Int32) : Prop := gG l v lyC 42 me_C_has n (qI v lyC 42 post) 0 [(0, .ref (v.2.2 10)), (1, .int x1)] [] σ
abbrev G_C_has_16 (l : Launch) (v : gs_V) (n : Nat) (post : Int32 → gs_S → Prop) (σ : gs_S) : Prop := gG l v lyC 42 me_C_has n (qI v lyC 42 post) 16 [] [] σ
abbrev G_C_has_17 (l : Launch) (v : gs_V) (n : Nat) (post : Int32 → gs_S → Prop) (σ : gs_S) (s0 : Int32) : Prop := gG l v lyC 42 me_C_has n (qI v lyC 42 post) 17 [] [.int s0] σ
set_option maxRecDepth 20000 in
set_option maxHeartbeats 1000000 in
theorem T_C_has_0 {l : Launch} {v : gs_V} {n : Nat} {post : Int32 → gs_S → Prop} {σ : gs_S} {x1 : Int32} (h : ((x1 < 0 → G_C_has_16 l v n post σ) ∧ (¬ x1 < 0 → (((σ.1 10 1) ≤ x1 → G_C_has_16 l v n post σ) ∧ (¬ (σ.1 10 1) ≤ x1 → G_C_has_17 l v n post σ 1))))) : G_C_has_0 l v n post σ x1 := by
  refine g_iload_n d_C_has_0 1 rfl rfl ?_
  refine g_if_lt (tgt := 16) d_C_has_1 rfl (fun hc => ?_) (fun hc => ?_)
  · have h := h.1 hc
    exact g_sub [] rfl h
  · have h := h.2 hc
    refine g_iload_n d_C_has_4 1 rfl rfl ?_
    refine g_aload_n d_C_has_5 0 rfl rfl ?_
    refine g_getV (x := .int (σ.1 10 1)) d_C_has_6 fl_C_15 (by decide) rfl rfl rfl ?_
    refine g_icmp_ge (tgt := 16) d_C_has_9 rfl (fun hc => ?_) (fun hc => ?_)
    · have h := h.1 hc
      exact g_sub [] rfl h
    · have h := h.2 hc
      refine g_iconst d_C_has_12 (x := 1) (by decide) ?_
      refine g_goto (tgt := 17) d_C_has_13 rfl ?_
      exact g_sub [] rfl h
set_option maxRecDepth 20000 in
set_option maxHeartbeats 1000000 in
theorem T_C_has_16 {l : Launch} {v : gs_V} {n : Nat} {post : Int32 → gs_S → Prop} {σ : gs_S} (h : G_C_has_17 l v n post σ 0) : G_C_has_16 l v n post σ := by
  refine g_iconst d_C_has_16 (x := 0) (by decide) ?_
  exact h
set_option maxRecDepth 20000 in
set_option maxHeartbeats 1000000 in
theorem T_C_has_17 {l : Launch} {v : gs_V} {n : Nat} {post : Int32 → gs_S → Prop} {σ : gs_S} {s0 : Int32} (h : narrow .boolean (.int s0) = .int s0 ∧ post s0 σ) : G_C_has_17 l v n post σ s0 := by
  exact g_zret d_C_has_17 rfl h.1 h.2
theorem E_C_has {l : Launch} {v : gs_V} {n : Nat} {post : Int32 → gs_S → Prop} {σ : gs_S} {x1 : Int32} (h : G_C_has_0 l v n post σ x1) : gM l v lyC 42 me_C_has (n + 1) [.ref (v.2.2 10), .int x1] σ (qI v lyC 42 post) := gM_of (by decide +kernel) (Nat.le_of_ble_eq_true rfl) h
/-! LineRules$Ring.resize -/
theorem d_C_resize_0 : decode me_C_resize.2.1 0 = .ok (.aload_n 0, 1) := by decide +kernel
theorem d_C_resize_1 : decode me_C_resize.2.1 1 = .ok (.iload_n 1, 1) := by decide +kernel
theorem d_C_resize_2 : decode me_C_resize.2.1 2 = .ok (.putfield 15, 3) := by decide +kernel
theorem d_C_resize_5 : decode me_C_resize.2.1 5 = .ok (.aload_n 0, 1) := by decide +kernel
theorem d_C_resize_6 : decode me_C_resize.2.1 6 = .ok (.invokevirtual 29, 3) := by decide +kernel
theorem d_C_resize_9 : decode me_C_resize.2.1 9 = .ok (.return_, 1) := by decide +kernel
abbrev G_C_resize_0 (l : Launch) (v : gs_V) (n : Nat) (post : gs_S → Prop) (σ : gs_S) (x1 : Int32) : Prop := gG l v lyC 42 me_C_resize n (qV v lyC 42 post) 0 [(0, .ref (v.2.2 10)), (1, .int x1)] [] σ
set_option maxRecDepth 20000 in
set_option maxHeartbeats 1000000 in
theorem T_C_resize_0 {l : Launch} {v : gs_V} {n : Nat} {post : gs_S → Prop} {σ : gs_S} {x1 : Int32} (h : gM l v lyC 42 me_C_clear n [.ref (v.2.2 10)] (gs_pI σ 10 1 x1) (qV v lyC 42 (fun σ1 => post σ1))) : G_C_resize_0 l v n post σ x1 := by
  refine g_aload_n d_C_resize_0 0 rfl rfl ?_
  refine g_iload_n d_C_resize_1 1 rfl rfl ?_
  refine g_putI d_C_resize_2 fp_C_15 (by decide) rfl rfl ⟨rfl, rfl⟩ ?_
  refine g_aload_n d_C_resize_5 0 rfl rfl ?_
  refine g_callVv (av := []) (rest := []) d_C_resize_6 Y_C_clear lk_C_29 (by decide) rfl rfl I_C_clear rfl (Nat.le_of_ble_eq_true rfl) rfl h (fun σ1 h => ?_)
  exact g_vret d_C_resize_9 rfl h
theorem E_C_resize {l : Launch} {v : gs_V} {n : Nat} {post : gs_S → Prop} {σ : gs_S} {x1 : Int32} (h : G_C_resize_0 l v n post σ x1) : gM l v lyC 42 me_C_resize (n + 1) [.ref (v.2.2 10), .int x1] σ (qV v lyC 42 post) := gM_of (by decide +kernel) (Nat.le_of_ble_eq_true rfl) h
/-! LineRules$Ring.run -/
theorem d_C_run_0 : decode me_C_run.2.1 0 = .ok (.aload_n 0, 1) := by decide +kernel
theorem d_C_run_1 : decode me_C_run.2.1 1 = .ok (.getfield 9, 3) := by decide +kernel
theorem d_C_run_4 : decode me_C_run.2.1 4 = .ok (.iconst 0, 1) := by decide +kernel
theorem d_C_run_5 : decode me_C_run.2.1 5 = .ok (.aload_n 0, 1) := by decide +kernel
theorem d_C_run_6 : decode me_C_run.2.1 6 = .ok (.getfield 22, 3) := by decide +kernel
theorem d_C_run_9 : decode me_C_run.2.1 9 = .ok (.iconst 0, 1) := by decide +kernel
theorem d_C_run_10 : decode me_C_run.2.1 10 = .ok (.aload_n 0, 1) := by decide +kernel
theorem d_C_run_11 : decode me_C_run.2.1 11 = .ok (.getfield 15, 3) := by decide +kernel
theorem d_C_run_14 : decode me_C_run.2.1 14 = .ok (.invokestatic 38, 3) := by decide +kernel
theorem d_C_run_17 : decode me_C_run.2.1 17 = .ok (.iconst 0, 1) := by decide +kernel
theorem d_C_run_18 : decode me_C_run.2.1 18 = .ok (.istore_n 2, 1) := by decide +kernel
theorem d_C_run_19 : decode me_C_run.2.1 19 = .ok (.iload_n 2, 1) := by decide +kernel
theorem d_C_run_20 : decode me_C_run.2.1 20 = .ok (.iload_n 1, 1) := by decide +kernel
theorem d_C_run_21 : decode me_C_run.2.1 21 = .ok (.if_icmp .ge 13, 3) := by decide +kernel
theorem d_C_run_24 : decode me_C_run.2.1 24 = .ok (.aload_n 0, 1) := by decide +kernel
theorem d_C_run_25 : decode me_C_run.2.1 25 = .ok (.invokevirtual 44, 3) := by decide +kernel
theorem d_C_run_28 : decode me_C_run.2.1 28 = .ok (.iinc 2 1, 3) := by decide +kernel
theorem d_C_run_31 : decode me_C_run.2.1 31 = .ok (.goto (-12), 3) := by decide +kernel
theorem d_C_run_34 : decode me_C_run.2.1 34 = .ok (.iconst 0, 1) := by decide +kernel
theorem d_C_run_35 : decode me_C_run.2.1 35 = .ok (.istore_n 2, 1) := by decide +kernel
theorem d_C_run_36 : decode me_C_run.2.1 36 = .ok (.iconst 0, 1) := by decide +kernel
theorem d_C_run_37 : decode me_C_run.2.1 37 = .ok (.istore_n 3, 1) := by decide +kernel
theorem d_C_run_38 : decode me_C_run.2.1 38 = .ok (.iload_n 3, 1) := by decide +kernel
theorem d_C_run_39 : decode me_C_run.2.1 39 = .ok (.aload_n 0, 1) := by decide +kernel
theorem d_C_run_40 : decode me_C_run.2.1 40 = .ok (.getfield 15, 3) := by decide +kernel
theorem d_C_run_43 : decode me_C_run.2.1 43 = .ok (.if_icmp .ge 27, 3) := by decide +kernel
theorem d_C_run_46 : decode me_C_run.2.1 46 = .ok (.aload_n 0, 1) := by decide +kernel
theorem d_C_run_47 : decode me_C_run.2.1 47 = .ok (.getfield 9, 3) := by decide +kernel
theorem d_C_run_50 : decode me_C_run.2.1 50 = .ok (.iload_n 3, 1) := by decide +kernel
theorem d_C_run_51 : decode me_C_run.2.1 51 = .ok (.iaload, 1) := by decide +kernel
theorem d_C_run_52 : decode me_C_run.2.1 52 = .ok (.aload_n 0, 1) := by decide +kernel
theorem d_C_run_53 : decode me_C_run.2.1 53 = .ok (.getfield 22, 3) := by decide +kernel
theorem d_C_run_56 : decode me_C_run.2.1 56 = .ok (.iload_n 3, 1) := by decide +kernel
theorem d_C_run_57 : decode me_C_run.2.1 57 = .ok (.iaload, 1) := by decide +kernel
theorem d_C_run_58 : decode me_C_run.2.1 58 = .ok (.if_icmp .eq 6, 3) := by decide +kernel
theorem d_C_run_61 : decode me_C_run.2.1 61 = .ok (.iinc 2 1, 3) := by decide +kernel
theorem d_C_run_64 : decode me_C_run.2.1 64 = .ok (.iinc 3 1, 3) := by decide +kernel
theorem d_C_run_67 : decode me_C_run.2.1 67 = .ok (.goto (-29), 3) := by decide +kernel
theorem d_C_run_70 : decode me_C_run.2.1 70 = .ok (.iload_n 2, 1) := by decide +kernel
theorem d_C_run_71 : decode me_C_run.2.1 71 = .ok (.ireturn, 1) := by decide +kernel
abbrev G_C_run_0 (l : Launch) (v : gs_V) (n : Nat) (post : Int32 → gs_S → Prop) (σ : gs_S) (x1 : Int32) : Prop := gG l v lyC 42 me_C_run n (qI v lyC 42 post) 0 [(0, .ref (v.2.2 10)), (1, .int x1)] [] σ
abbrev G_C_run_19 (l : Launch) (v : gs_V) (n : Nat) (post : Int32 → gs_S → Prop) (σ : gs_S) (x1 : Int32) (x2 : Int32) : Prop := gG l v lyC 42 me_C_run n (qI v lyC 42 post) 19 [(0, .ref (v.2.2 10)), (1, .int x1), (2, .int x2)] [] σ
abbrev G_C_run_38 (l : Launch) (v : gs_V) (n : Nat) (post : Int32 → gs_S → Prop) (σ : gs_S) (x2 : Int32) (x3 : Int32) : Prop := gG l v lyC 42 me_C_run n (qI v lyC 42 post) 38 [(0, .ref (v.2.2 10)), (2, .int x2), (3, .int x3)] [] σ
abbrev G_C_run_64 (l : Launch) (v : gs_V) (n : Nat) (post : Int32 → gs_S → Prop) (σ : gs_S) (x2 : Int32) (x3 : Int32) : Prop := gG l v lyC 42 me_C_run n (qI v lyC 42 post) 64 [(0, .ref (v.2.2 10)), (2, .int x2), (3, .int x3)] [] σ
set_option maxRecDepth 20000 in
set_option maxHeartbeats 1000000 in
theorem T_C_run_0 {l : Launch} {v : gs_V} {n : Nat} {post : Int32 → gs_S → Prop} {σ : gs_S} {x1 : Int32} (h : (¬ (σ.1 10 1) < 0 ∧ (σ.1 10 1).toNatClampNeg ≤ 64) ∧ G_C_run_19 l v n post (gs_pA σ 13 (va_cpy (σ.1 11) (σ.1 13) 0 0 ((σ.1 10 1).toNatClampNeg))) x1 0) : G_C_run_0 l v n post σ x1 := by
  refine g_aload_n d_C_run_0 0 rfl rfl ?_
  refine g_getV (x := .ref (v.2.2 11)) d_C_run_1 fl_C_9 (by decide) rfl rfl rfl ?_
  refine g_iconst d_C_run_4 (x := 0) (by decide) ?_
  refine g_aload_n d_C_run_5 0 rfl rfl ?_
  refine g_getV (x := .ref (v.2.2 13)) d_C_run_6 fl_C_22 (by decide) rfl rfl rfl ?_
  refine g_iconst d_C_run_9 (x := 0) (by decide) ?_
  refine g_aload_n d_C_run_10 0 rfl rfl ?_
  refine g_getV (x := .int (σ.1 10 1)) d_C_run_11 fl_C_15 (by decide) rfl rfl rfl ?_
  have hcp := h.1
  have h := h.2
  refine g_copyi d_C_run_14 lk_C_38 (by decide) rfl (by decide) rfl hcp.1 (Nat.le_trans hcp.2 (by decide)) (Nat.le_trans hcp.2 (by decide)) (Nat.le_of_ble_eq_true rfl) ?_
  refine g_iconst d_C_run_17 (x := 0) (by decide) ?_
  refine g_istore_n (L' := [(2, .int 0), (0, .ref (v.2.2 10)), (1, .int x1)]) d_C_run_18 rfl (by decide) rfl ?_
  exact g_sub [1, 2, 0] rfl h
set_option maxRecDepth 20000 in
set_option maxHeartbeats 1000000 in
theorem T_C_run_19 {l : Launch} {v : gs_V} {n : Nat} {post : Int32 → gs_S → Prop} {σ : gs_S} {x1 : Int32} {x2 : Int32} (h : ((x1 ≤ x2 → G_C_run_38 l v n post σ 0 0) ∧ (¬ x1 ≤ x2 → gM l v lyC 42 me_C_stepOnce n [.ref (v.2.2 10)] σ (qV v lyC 42 (fun σ1 => G_C_run_19 l v n post σ1 x1 (x2 + 1)))))) : G_C_run_19 l v n post σ x1 x2 := by
  refine g_iload_n d_C_run_19 2 rfl rfl ?_
  refine g_iload_n d_C_run_20 1 rfl rfl ?_
  refine g_icmp_ge (tgt := 34) d_C_run_21 rfl (fun hc => ?_) (fun hc => ?_)
  · have h := h.1 hc
    refine g_iconst d_C_run_34 (x := 0) (by decide) ?_
    refine g_istore_n (L' := [(2, .int 0), (0, .ref (v.2.2 10)), (1, .int x1)]) d_C_run_35 rfl (by decide) rfl ?_
    refine g_iconst d_C_run_36 (x := 0) (by decide) ?_
    refine g_istore_n (L' := [(3, .int 0), (2, .int 0), (0, .ref (v.2.2 10)), (1, .int x1)]) d_C_run_37 rfl (by decide) rfl ?_
    exact g_sub [2, 1, 0] rfl h
  · have h := h.2 hc
    refine g_aload_n d_C_run_24 0 rfl rfl ?_
    refine g_callVv (av := []) (rest := []) d_C_run_25 Y_C_stepOnce lk_C_44 (by decide) rfl rfl I_C_stepOnce rfl (Nat.le_of_ble_eq_true rfl) rfl h (fun σ1 h => ?_)
    refine g_iinc (L' := [(2, .int (x2 + 1)), (0, .ref (v.2.2 10)), (1, .int x1)]) d_C_run_28 2 rfl (by rfl) (by decide) rfl ?_
    refine g_goto (tgt := 19) d_C_run_31 rfl ?_
    exact g_sub [1, 2, 0] rfl h
set_option maxRecDepth 20000 in
set_option maxHeartbeats 1000000 in
theorem T_C_run_38 {l : Launch} {v : gs_V} {n : Nat} {post : Int32 → gs_S → Prop} {σ : gs_S} {x2 : Int32} {x3 : Int32} (h : (((σ.1 10 1) ≤ x3 → post x2 σ) ∧ (¬ (σ.1 10 1) ≤ x3 → vp_in x3 64 ∧ vp_in x3 64 ∧ (((σ.1 11 x3.toNatClampNeg) = (σ.1 13 x3.toNatClampNeg) → G_C_run_64 l v n post σ x2 x3) ∧ (¬ (σ.1 11 x3.toNatClampNeg) = (σ.1 13 x3.toNatClampNeg) → G_C_run_64 l v n post σ (x2 + 1) x3))))) : G_C_run_38 l v n post σ x2 x3 := by
  refine g_iload_n d_C_run_38 2 rfl rfl ?_
  refine g_aload_n d_C_run_39 0 rfl rfl ?_
  refine g_getV (x := .int (σ.1 10 1)) d_C_run_40 fl_C_15 (by decide) rfl rfl rfl ?_
  refine g_icmp_ge (tgt := 70) d_C_run_43 rfl (fun hc => ?_) (fun hc => ?_)
  · have h := h.1 hc
    refine g_iload_n d_C_run_70 1 rfl rfl ?_
    exact g_iret d_C_run_71 rfl h
  · have h := h.2 hc
    refine g_aload_n d_C_run_46 0 rfl rfl ?_
    refine g_getV (x := .ref (v.2.2 11)) d_C_run_47 fl_C_9 (by decide) rfl rfl rfl ?_
    refine g_iload_n d_C_run_50 2 rfl rfl ?_
    have hi1 := h.1
    have h := h.2
    refine g_iald (x := σ.1 11 x3.toNatClampNeg) d_C_run_51 (by decide) rfl hi1 rfl ?_
    refine g_aload_n d_C_run_52 0 rfl rfl ?_
    refine g_getV (x := .ref (v.2.2 13)) d_C_run_53 fl_C_22 (by decide) rfl rfl rfl ?_
    refine g_iload_n d_C_run_56 2 rfl rfl ?_
    have hi2 := h.1
    have h := h.2
    refine g_iald (x := σ.1 13 x3.toNatClampNeg) d_C_run_57 (by decide) rfl hi2 rfl ?_
    refine g_icmp_eq (tgt := 64) d_C_run_58 rfl (fun hc => ?_) (fun hc => ?_)
    · have h := h.1 hc
      exact h
    · have h := h.2 hc
      refine g_iinc (L' := [(2, .int (x2 + 1)), (0, .ref (v.2.2 10)), (3, .int x3)]) d_C_run_61 1 rfl (by rfl) (by decide) rfl ?_
      exact g_sub [1, 0, 2] rfl h
set_option maxRecDepth 20000 in
set_option maxHeartbeats 1000000 in
theorem T_C_run_64 {l : Launch} {v : gs_V} {n : Nat} {post : Int32 → gs_S → Prop} {σ : gs_S} {x2 : Int32} {x3 : Int32} (h : G_C_run_38 l v n post σ x2 (x3 + 1)) : G_C_run_64 l v n post σ x2 x3 := by
  refine g_iinc (L' := [(3, .int (x3 + 1)), (0, .ref (v.2.2 10)), (2, .int x2)]) d_C_run_64 2 rfl (by rfl) (by decide) rfl ?_
  refine g_goto (tgt := 38) d_C_run_67 rfl ?_
  exact g_sub [1, 2, 0] rfl h
theorem E_C_run {l : Launch} {v : gs_V} {n : Nat} {post : Int32 → gs_S → Prop} {σ : gs_S} {x1 : Int32} (h : G_C_run_0 l v n post σ x1) : gM l v lyC 42 me_C_run (n + 1) [.ref (v.2.2 10), .int x1] σ (qI v lyC 42 post) := gM_of (by decide +kernel) (Nat.le_of_ble_eq_true rfl) h
/-! LineRules$Ring.stepOnce -/
theorem d_C_stepOnce_0 : decode me_C_stepOnce.2.1 0 = .ok (.iconst 0, 1) := by decide +kernel
theorem d_C_stepOnce_1 : decode me_C_stepOnce.2.1 1 = .ok (.istore_n 1, 1) := by decide +kernel
theorem d_C_stepOnce_2 : decode me_C_stepOnce.2.1 2 = .ok (.iconst 0, 1) := by decide +kernel
theorem d_C_stepOnce_3 : decode me_C_stepOnce.2.1 3 = .ok (.istore_n 2, 1) := by decide +kernel
theorem d_C_stepOnce_4 : decode me_C_stepOnce.2.1 4 = .ok (.iload_n 2, 1) := by decide +kernel
theorem d_C_stepOnce_5 : decode me_C_stepOnce.2.1 5 = .ok (.aload_n 0, 1) := by decide +kernel
theorem d_C_stepOnce_6 : decode me_C_stepOnce.2.1 6 = .ok (.getfield 25, 3) := by decide +kernel
theorem d_C_stepOnce_9 : decode me_C_stepOnce.2.1 9 = .ok (.getfield 47, 3) := by decide +kernel
theorem d_C_stepOnce_12 : decode me_C_stepOnce.2.1 12 = .ok (.if_icmp .ge 41, 3) := by decide +kernel
theorem d_C_stepOnce_15 : decode me_C_stepOnce.2.1 15 = .ok (.iload_n 1, 1) := by decide +kernel
theorem d_C_stepOnce_16 : decode me_C_stepOnce.2.1 16 = .ok (.aload_n 0, 1) := by decide +kernel
theorem d_C_stepOnce_17 : decode me_C_stepOnce.2.1 17 = .ok (.getfield 25, 3) := by decide +kernel
theorem d_C_stepOnce_20 : decode me_C_stepOnce.2.1 20 = .ok (.getfield 52, 3) := by decide +kernel
theorem d_C_stepOnce_23 : decode me_C_stepOnce.2.1 23 = .ok (.imul, 1) := by decide +kernel
theorem d_C_stepOnce_24 : decode me_C_stepOnce.2.1 24 = .ok (.aload_n 0, 1) := by decide +kernel
theorem d_C_stepOnce_25 : decode me_C_stepOnce.2.1 25 = .ok (.getfield 9, 3) := by decide +kernel
theorem d_C_stepOnce_28 : decode me_C_stepOnce.2.1 28 = .ok (.iload_n 2, 1) := by decide +kernel
theorem d_C_stepOnce_29 : decode me_C_stepOnce.2.1 29 = .ok (.aload_n 0, 1) := by decide +kernel
theorem d_C_stepOnce_30 : decode me_C_stepOnce.2.1 30 = .ok (.getfield 25, 3) := by decide +kernel
theorem d_C_stepOnce_33 : decode me_C_stepOnce.2.1 33 = .ok (.invokevirtual 55, 3) := by decide +kernel
theorem d_C_stepOnce_36 : decode me_C_stepOnce.2.1 36 = .ok (.isub, 1) := by decide +kernel
theorem d_C_stepOnce_37 : decode me_C_stepOnce.2.1 37 = .ok (.aload_n 0, 1) := by decide +kernel
theorem d_C_stepOnce_38 : decode me_C_stepOnce.2.1 38 = .ok (.getfield 15, 3) := by decide +kernel
theorem d_C_stepOnce_41 : decode me_C_stepOnce.2.1 41 = .ok (.invokestatic 59, 3) := by decide +kernel
theorem d_C_stepOnce_44 : decode me_C_stepOnce.2.1 44 = .ok (.iaload, 1) := by decide +kernel
theorem d_C_stepOnce_45 : decode me_C_stepOnce.2.1 45 = .ok (.iadd, 1) := by decide +kernel
theorem d_C_stepOnce_46 : decode me_C_stepOnce.2.1 46 = .ok (.istore_n 1, 1) := by decide +kernel
theorem d_C_stepOnce_47 : decode me_C_stepOnce.2.1 47 = .ok (.iinc 2 1, 3) := by decide +kernel
theorem d_C_stepOnce_50 : decode me_C_stepOnce.2.1 50 = .ok (.goto (-46), 3) := by decide +kernel
theorem d_C_stepOnce_53 : decode me_C_stepOnce.2.1 53 = .ok (.aload_n 0, 1) := by decide +kernel
theorem d_C_stepOnce_54 : decode me_C_stepOnce.2.1 54 = .ok (.getfield 25, 3) := by decide +kernel
theorem d_C_stepOnce_57 : decode me_C_stepOnce.2.1 57 = .ok (.getfield 47, 3) := by decide +kernel
theorem d_C_stepOnce_60 : decode me_C_stepOnce.2.1 60 = .ok (.aload_n 0, 1) := by decide +kernel
theorem d_C_stepOnce_61 : decode me_C_stepOnce.2.1 61 = .ok (.getfield 25, 3) := by decide +kernel
theorem d_C_stepOnce_64 : decode me_C_stepOnce.2.1 64 = .ok (.invokevirtual 55, 3) := by decide +kernel
theorem d_C_stepOnce_67 : decode me_C_stepOnce.2.1 67 = .ok (.isub, 1) := by decide +kernel
theorem d_C_stepOnce_68 : decode me_C_stepOnce.2.1 68 = .ok (.istore_n 2, 1) := by decide +kernel
theorem d_C_stepOnce_69 : decode me_C_stepOnce.2.1 69 = .ok (.iconst 0, 1) := by decide +kernel
theorem d_C_stepOnce_70 : decode me_C_stepOnce.2.1 70 = .ok (.istore_n 3, 1) := by decide +kernel
theorem d_C_stepOnce_71 : decode me_C_stepOnce.2.1 71 = .ok (.iload_n 3, 1) := by decide +kernel
theorem d_C_stepOnce_72 : decode me_C_stepOnce.2.1 72 = .ok (.aload_n 0, 1) := by decide +kernel
theorem d_C_stepOnce_73 : decode me_C_stepOnce.2.1 73 = .ok (.getfield 15, 3) := by decide +kernel
theorem d_C_stepOnce_76 : decode me_C_stepOnce.2.1 76 = .ok (.if_icmp .ge 55, 3) := by decide +kernel
theorem d_C_stepOnce_79 : decode me_C_stepOnce.2.1 79 = .ok (.aload_n 0, 1) := by decide +kernel
theorem d_C_stepOnce_80 : decode me_C_stepOnce.2.1 80 = .ok (.getfield 19, 3) := by decide +kernel
theorem d_C_stepOnce_83 : decode me_C_stepOnce.2.1 83 = .ok (.iload_n 3, 1) := by decide +kernel
theorem d_C_stepOnce_84 : decode me_C_stepOnce.2.1 84 = .ok (.aload_n 0, 1) := by decide +kernel
theorem d_C_stepOnce_85 : decode me_C_stepOnce.2.1 85 = .ok (.getfield 25, 3) := by decide +kernel
theorem d_C_stepOnce_88 : decode me_C_stepOnce.2.1 88 = .ok (.getfield 65, 3) := by decide +kernel
theorem d_C_stepOnce_91 : decode me_C_stepOnce.2.1 91 = .ok (.iload_n 1, 1) := by decide +kernel
theorem d_C_stepOnce_92 : decode me_C_stepOnce.2.1 92 = .ok (.iaload, 1) := by decide +kernel
theorem d_C_stepOnce_93 : decode me_C_stepOnce.2.1 93 = .ok (.iastore, 1) := by decide +kernel
theorem d_C_stepOnce_94 : decode me_C_stepOnce.2.1 94 = .ok (.aload_n 0, 1) := by decide +kernel
theorem d_C_stepOnce_95 : decode me_C_stepOnce.2.1 95 = .ok (.getfield 25, 3) := by decide +kernel
theorem d_C_stepOnce_98 : decode me_C_stepOnce.2.1 98 = .ok (.iload_n 1, 1) := by decide +kernel
theorem d_C_stepOnce_99 : decode me_C_stepOnce.2.1 99 = .ok (.invokevirtual 68, 3) := by decide +kernel
theorem d_C_stepOnce_102 : decode me_C_stepOnce.2.1 102 = .ok (.aload_n 0, 1) := by decide +kernel
theorem d_C_stepOnce_103 : decode me_C_stepOnce.2.1 103 = .ok (.getfield 25, 3) := by decide +kernel
theorem d_C_stepOnce_106 : decode me_C_stepOnce.2.1 106 = .ok (.getfield 52, 3) := by decide +kernel
theorem d_C_stepOnce_109 : decode me_C_stepOnce.2.1 109 = .ok (.imul, 1) := by decide +kernel
theorem d_C_stepOnce_110 : decode me_C_stepOnce.2.1 110 = .ok (.aload_n 0, 1) := by decide +kernel
theorem d_C_stepOnce_111 : decode me_C_stepOnce.2.1 111 = .ok (.getfield 9, 3) := by decide +kernel
theorem d_C_stepOnce_114 : decode me_C_stepOnce.2.1 114 = .ok (.iload_n 3, 1) := by decide +kernel
theorem d_C_stepOnce_115 : decode me_C_stepOnce.2.1 115 = .ok (.iload_n 2, 1) := by decide +kernel
theorem d_C_stepOnce_116 : decode me_C_stepOnce.2.1 116 = .ok (.iadd, 1) := by decide +kernel
theorem d_C_stepOnce_117 : decode me_C_stepOnce.2.1 117 = .ok (.aload_n 0, 1) := by decide +kernel
theorem d_C_stepOnce_118 : decode me_C_stepOnce.2.1 118 = .ok (.getfield 15, 3) := by decide +kernel
theorem d_C_stepOnce_121 : decode me_C_stepOnce.2.1 121 = .ok (.irem, 1) := by decide +kernel
theorem d_C_stepOnce_122 : decode me_C_stepOnce.2.1 122 = .ok (.iaload, 1) := by decide +kernel
theorem d_C_stepOnce_123 : decode me_C_stepOnce.2.1 123 = .ok (.iadd, 1) := by decide +kernel
theorem d_C_stepOnce_124 : decode me_C_stepOnce.2.1 124 = .ok (.istore_n 1, 1) := by decide +kernel
theorem d_C_stepOnce_125 : decode me_C_stepOnce.2.1 125 = .ok (.iinc 3 1, 3) := by decide +kernel
theorem d_C_stepOnce_128 : decode me_C_stepOnce.2.1 128 = .ok (.goto (-57), 3) := by decide +kernel
theorem d_C_stepOnce_131 : decode me_C_stepOnce.2.1 131 = .ok (.aload_n 0, 1) := by decide +kernel
theorem d_C_stepOnce_132 : decode me_C_stepOnce.2.1 132 = .ok (.getfield 19, 3) := by decide +kernel
theorem d_C_stepOnce_135 : decode me_C_stepOnce.2.1 135 = .ok (.iconst 0, 1) := by decide +kernel
theorem d_C_stepOnce_136 : decode me_C_stepOnce.2.1 136 = .ok (.aload_n 0, 1) := by decide +kernel
theorem d_C_stepOnce_137 : decode me_C_stepOnce.2.1 137 = .ok (.getfield 9, 3) := by decide +kernel
theorem d_C_stepOnce_140 : decode me_C_stepOnce.2.1 140 = .ok (.iconst 0, 1) := by decide +kernel
theorem d_C_stepOnce_141 : decode me_C_stepOnce.2.1 141 = .ok (.aload_n 0, 1) := by decide +kernel
theorem d_C_stepOnce_142 : decode me_C_stepOnce.2.1 142 = .ok (.getfield 15, 3) := by decide +kernel
theorem d_C_stepOnce_145 : decode me_C_stepOnce.2.1 145 = .ok (.invokestatic 38, 3) := by decide +kernel
theorem d_C_stepOnce_148 : decode me_C_stepOnce.2.1 148 = .ok (.return_, 1) := by decide +kernel
abbrev G_C_stepOnce_0 (l : Launch) (v : gs_V) (n : Nat) (post : gs_S → Prop) (σ : gs_S) : Prop := gG l v lyC 42 me_C_stepOnce n (qV v lyC 42 post) 0 [(0, .ref (v.2.2 10))] [] σ
abbrev G_C_stepOnce_4 (l : Launch) (v : gs_V) (n : Nat) (post : gs_S → Prop) (σ : gs_S) (x1 : Int32) (x2 : Int32) : Prop := gG l v lyC 42 me_C_stepOnce n (qV v lyC 42 post) 4 [(0, .ref (v.2.2 10)), (1, .int x1), (2, .int x2)] [] σ
abbrev G_C_stepOnce_71 (l : Launch) (v : gs_V) (n : Nat) (post : gs_S → Prop) (σ : gs_S) (x1 : Int32) (x2 : Int32) (x3 : Int32) : Prop := gG l v lyC 42 me_C_stepOnce n (qV v lyC 42 post) 71 [(0, .ref (v.2.2 10)), (1, .int x1), (2, .int x2), (3, .int x3)] [] σ
set_option maxRecDepth 20000 in
set_option maxHeartbeats 1000000 in
theorem T_C_stepOnce_0 {l : Launch} {v : gs_V} {n : Nat} {post : gs_S → Prop} {σ : gs_S} (h : G_C_stepOnce_4 l v n post σ 0 0) : G_C_stepOnce_0 l v n post σ := by
  refine g_iconst d_C_stepOnce_0 (x := 0) (by decide) ?_
  refine g_istore_n (L' := [(1, .int 0), (0, .ref (v.2.2 10))]) d_C_stepOnce_1 rfl (by decide) rfl ?_
  refine g_iconst d_C_stepOnce_2 (x := 0) (by decide) ?_
  refine g_istore_n (L' := [(2, .int 0), (1, .int 0), (0, .ref (v.2.2 10))]) d_C_stepOnce_3 rfl (by decide) rfl ?_
  exact g_sub [2, 1, 0] rfl h
set_option maxRecDepth 20000 in
set_option maxHeartbeats 1000000 in
theorem T_C_stepOnce_4 {l : Launch} {v : gs_V} {n : Nat} {post : gs_S → Prop} {σ : gs_S} {x1 : Int32} {x2 : Int32} (h : (((σ.1 4 7) ≤ x2 → gM l v lyC 42 me_R_left n [.ref (v.2.2 4)] σ (qI v lyC 42 (fun r1 σ1 => G_C_stepOnce_71 l v n post σ1 x1 ((σ.1 4 7) - r1) 0))) ∧ (¬ (σ.1 4 7) ≤ x2 → gM l v lyC 42 me_R_left n [.ref (v.2.2 4)] σ (qI v lyC 42 (fun r2 σ2 => gM l v lyC 42 me_J_floorMod n [.int (x2 - r2), .int (σ2.1 10 1)] σ2 (qI v lyC 42 (fun r3 σ3 => vp_in r3 64 ∧ G_C_stepOnce_4 l v n post σ3 ((x1 * (σ.1 4 6)) + (σ3.1 11 r3.toNatClampNeg)) (x2 + 1)))))))) : G_C_stepOnce_4 l v n post σ x1 x2 := by
  refine g_iload_n d_C_stepOnce_4 2 rfl rfl ?_
  refine g_aload_n d_C_stepOnce_5 0 rfl rfl ?_
  refine g_getV (x := .ref (v.2.2 4)) d_C_stepOnce_6 fl_C_25 (by decide) rfl rfl rfl ?_
  refine g_getV (x := .int (σ.1 4 7)) d_C_stepOnce_9 fl_C_47 (by decide) rfl rfl rfl ?_
  refine g_icmp_ge (tgt := 53) d_C_stepOnce_12 rfl (fun hc => ?_) (fun hc => ?_)
  · have h := h.1 hc
    refine g_aload_n d_C_stepOnce_53 0 rfl rfl ?_
    refine g_getV (x := .ref (v.2.2 4)) d_C_stepOnce_54 fl_C_25 (by decide) rfl rfl rfl ?_
    refine g_getV (x := .int (σ.1 4 7)) d_C_stepOnce_57 fl_C_47 (by decide) rfl rfl rfl ?_
    refine g_aload_n d_C_stepOnce_60 0 rfl rfl ?_
    refine g_getV (x := .ref (v.2.2 4)) d_C_stepOnce_61 fl_C_25 (by decide) rfl rfl rfl ?_
    refine g_callVi (av := []) (rest := [.int (σ.1 4 7)]) d_C_stepOnce_64 Y_R_left lk_C_55 (by decide) rfl rfl I_R_left rfl (Nat.le_of_ble_eq_true rfl) rfl h (fun r1 σ1 h => ?_)
    refine g_isub d_C_stepOnce_67 ?_
    refine g_istore_n (L' := [(2, .int ((σ.1 4 7) - r1)), (0, .ref (v.2.2 10)), (1, .int x1)]) d_C_stepOnce_68 rfl (by decide) rfl ?_
    refine g_iconst d_C_stepOnce_69 (x := 0) (by decide) ?_
    refine g_istore_n (L' := [(3, .int 0), (2, .int ((σ.1 4 7) - r1)), (0, .ref (v.2.2 10)), (1, .int x1)]) d_C_stepOnce_70 rfl (by decide) rfl ?_
    exact g_sub [2, 3, 1, 0] rfl h
  · have h := h.2 hc
    refine g_iload_n d_C_stepOnce_15 1 rfl rfl ?_
    refine g_aload_n d_C_stepOnce_16 0 rfl rfl ?_
    refine g_getV (x := .ref (v.2.2 4)) d_C_stepOnce_17 fl_C_25 (by decide) rfl rfl rfl ?_
    refine g_getV (x := .int (σ.1 4 6)) d_C_stepOnce_20 fl_C_52 (by decide) rfl rfl rfl ?_
    refine g_imul d_C_stepOnce_23 ?_
    refine g_aload_n d_C_stepOnce_24 0 rfl rfl ?_
    refine g_getV (x := .ref (v.2.2 11)) d_C_stepOnce_25 fl_C_9 (by decide) rfl rfl rfl ?_
    refine g_iload_n d_C_stepOnce_28 2 rfl rfl ?_
    refine g_aload_n d_C_stepOnce_29 0 rfl rfl ?_
    refine g_getV (x := .ref (v.2.2 4)) d_C_stepOnce_30 fl_C_25 (by decide) rfl rfl rfl ?_
    refine g_callVi (av := []) (rest := [.int x2, .ref (v.2.2 11), .int (x1 * (σ.1 4 6))]) d_C_stepOnce_33 Y_R_left lk_C_55 (by decide) rfl rfl I_R_left rfl (Nat.le_of_ble_eq_true rfl) rfl h (fun r2 σ2 h => ?_)
    refine g_isub d_C_stepOnce_36 ?_
    refine g_aload_n d_C_stepOnce_37 0 rfl rfl ?_
    refine g_getV (x := .int (σ2.1 10 1)) d_C_stepOnce_38 fl_C_15 (by decide) rfl rfl rfl ?_
    refine g_callSi (av := [.int (x2 - r2), .int (σ2.1 10 1)]) (rest := [.ref (v.2.2 11), .int (x1 * (σ.1 4 6))]) d_C_stepOnce_41 Y_J_floorMod lk_C_59 I_J_floorMod rfl (Nat.le_of_ble_eq_true rfl) rfl h (fun r3 σ3 h => ?_)
    have hi4 := h.1
    have h := h.2
    refine g_iald (x := σ3.1 11 r3.toNatClampNeg) d_C_stepOnce_44 (by decide) rfl hi4 rfl ?_
    refine g_iadd d_C_stepOnce_45 ?_
    refine g_istore_n (L' := [(1, .int ((x1 * (σ.1 4 6)) + (σ3.1 11 r3.toNatClampNeg))), (0, .ref (v.2.2 10)), (2, .int x2)]) d_C_stepOnce_46 rfl (by decide) rfl ?_
    refine g_iinc (L' := [(2, .int (x2 + 1)), (1, .int ((x1 * (σ.1 4 6)) + (σ3.1 11 r3.toNatClampNeg))), (0, .ref (v.2.2 10))]) d_C_stepOnce_47 2 rfl (by rfl) (by decide) rfl ?_
    refine g_goto (tgt := 4) d_C_stepOnce_50 rfl ?_
    exact g_sub [2, 1, 0] rfl h
set_option maxRecDepth 20000 in
set_option maxHeartbeats 1000000 in
theorem T_C_stepOnce_71 {l : Launch} {v : gs_V} {n : Nat} {post : gs_S → Prop} {σ : gs_S} {x1 : Int32} {x2 : Int32} {x3 : Int32} (h : (((σ.1 10 1) ≤ x3 → (¬ (σ.1 10 1) < 0 ∧ (σ.1 10 1).toNatClampNeg ≤ 64) ∧ post (gs_pA σ 11 (va_cpy (σ.1 12) (σ.1 11) 0 0 ((σ.1 10 1).toNatClampNeg)))) ∧ (¬ (σ.1 10 1) ≤ x3 → vp_in x1 256 ∧ vp_in x3 64 ∧ gM l v lyC 42 me_R_end n [.ref (v.2.2 4), .int x1] (gs_pI σ 12 x3.toNatClampNeg (σ.1 5 x1.toNatClampNeg)) (qI v lyC 42 (fun r3 σ3 => ¬ (σ3.1 10 1) = 0 ∧ vp_in (jR (x3 + x2) (σ3.1 10 1)) 64 ∧ G_C_stepOnce_71 l v n post σ3 ((r3 * (σ3.1 4 6)) + (σ3.1 11 ((jR (x3 + x2) (σ3.1 10 1)).toNatClampNeg))) x2 (x3 + 1)))))) : G_C_stepOnce_71 l v n post σ x1 x2 x3 := by
  refine g_iload_n d_C_stepOnce_71 3 rfl rfl ?_
  refine g_aload_n d_C_stepOnce_72 0 rfl rfl ?_
  refine g_getV (x := .int (σ.1 10 1)) d_C_stepOnce_73 fl_C_15 (by decide) rfl rfl rfl ?_
  refine g_icmp_ge (tgt := 131) d_C_stepOnce_76 rfl (fun hc => ?_) (fun hc => ?_)
  · have h := h.1 hc
    refine g_aload_n d_C_stepOnce_131 0 rfl rfl ?_
    refine g_getV (x := .ref (v.2.2 12)) d_C_stepOnce_132 fl_C_19 (by decide) rfl rfl rfl ?_
    refine g_iconst d_C_stepOnce_135 (x := 0) (by decide) ?_
    refine g_aload_n d_C_stepOnce_136 0 rfl rfl ?_
    refine g_getV (x := .ref (v.2.2 11)) d_C_stepOnce_137 fl_C_9 (by decide) rfl rfl rfl ?_
    refine g_iconst d_C_stepOnce_140 (x := 0) (by decide) ?_
    refine g_aload_n d_C_stepOnce_141 0 rfl rfl ?_
    refine g_getV (x := .int (σ.1 10 1)) d_C_stepOnce_142 fl_C_15 (by decide) rfl rfl rfl ?_
    have hcp := h.1
    have h := h.2
    refine g_copyi d_C_stepOnce_145 lk_C_38 (by decide) rfl (by decide) rfl hcp.1 (Nat.le_trans hcp.2 (by decide)) (Nat.le_trans hcp.2 (by decide)) (Nat.le_of_ble_eq_true rfl) ?_
    exact g_vret d_C_stepOnce_148 rfl h
  · have h := h.2 hc
    refine g_aload_n d_C_stepOnce_79 0 rfl rfl ?_
    refine g_getV (x := .ref (v.2.2 12)) d_C_stepOnce_80 fl_C_19 (by decide) rfl rfl rfl ?_
    refine g_iload_n d_C_stepOnce_83 3 rfl rfl ?_
    refine g_aload_n d_C_stepOnce_84 0 rfl rfl ?_
    refine g_getV (x := .ref (v.2.2 4)) d_C_stepOnce_85 fl_C_25 (by decide) rfl rfl rfl ?_
    refine g_getV (x := .ref (v.2.2 5)) d_C_stepOnce_88 fl_C_65 (by decide) rfl rfl rfl ?_
    refine g_iload_n d_C_stepOnce_91 1 rfl rfl ?_
    have hi1 := h.1
    have h := h.2
    refine g_iald (x := σ.1 5 x1.toNatClampNeg) d_C_stepOnce_92 (by decide) rfl hi1 rfl ?_
    have hi2 := h.1
    have h := h.2
    refine g_iast d_C_stepOnce_93 (by decide) rfl hi2 ?_
    refine g_aload_n d_C_stepOnce_94 0 rfl rfl ?_
    refine g_getV (x := .ref (v.2.2 4)) d_C_stepOnce_95 fl_C_25 (by decide) rfl rfl rfl ?_
    refine g_iload_n d_C_stepOnce_98 1 rfl rfl ?_
    refine g_callVi (av := [.int x1]) (rest := []) d_C_stepOnce_99 Y_R_end lk_C_68 (by decide) rfl rfl I_R_end rfl (Nat.le_of_ble_eq_true rfl) rfl h (fun r3 σ3 h => ?_)
    refine g_aload_n d_C_stepOnce_102 0 rfl rfl ?_
    refine g_getV (x := .ref (v.2.2 4)) d_C_stepOnce_103 fl_C_25 (by decide) rfl rfl rfl ?_
    refine g_getV (x := .int (σ3.1 4 6)) d_C_stepOnce_106 fl_C_52 (by decide) rfl rfl rfl ?_
    refine g_imul d_C_stepOnce_109 ?_
    refine g_aload_n d_C_stepOnce_110 0 rfl rfl ?_
    refine g_getV (x := .ref (v.2.2 11)) d_C_stepOnce_111 fl_C_9 (by decide) rfl rfl rfl ?_
    refine g_iload_n d_C_stepOnce_114 3 rfl rfl ?_
    refine g_iload_n d_C_stepOnce_115 2 rfl rfl ?_
    refine g_iadd d_C_stepOnce_116 ?_
    refine g_aload_n d_C_stepOnce_117 0 rfl rfl ?_
    refine g_getV (x := .int (σ3.1 10 1)) d_C_stepOnce_118 fl_C_15 (by decide) rfl rfl rfl ?_
    refine g_irem d_C_stepOnce_121 h.1 ?_
    have h := h.2
    have hi4 := h.1
    have h := h.2
    refine g_iald (x := σ3.1 11 ((jR (x3 + x2) (σ3.1 10 1)).toNatClampNeg)) d_C_stepOnce_122 (by decide) rfl hi4 rfl ?_
    refine g_iadd d_C_stepOnce_123 ?_
    refine g_istore_n (L' := [(1, .int ((r3 * (σ3.1 4 6)) + (σ3.1 11 ((jR (x3 + x2) (σ3.1 10 1)).toNatClampNeg)))), (0, .ref (v.2.2 10)), (2, .int x2), (3, .int x3)]) d_C_stepOnce_124 rfl (by decide) rfl ?_
    refine g_iinc (L' := [(3, .int (x3 + 1)), (1, .int ((r3 * (σ3.1 4 6)) + (σ3.1 11 ((jR (x3 + x2) (σ3.1 10 1)).toNatClampNeg)))), (0, .ref (v.2.2 10)), (2, .int x2)]) d_C_stepOnce_125 3 rfl (by rfl) (by decide) rfl ?_
    refine g_goto (tgt := 71) d_C_stepOnce_128 rfl ?_
    exact g_sub [2, 1, 3, 0] rfl h
theorem E_C_stepOnce {l : Launch} {v : gs_V} {n : Nat} {post : gs_S → Prop} {σ : gs_S} (h : G_C_stepOnce_0 l v n post σ) : gM l v lyC 42 me_C_stepOnce (n + 1) [.ref (v.2.2 10)] σ (qV v lyC 42 post) := gM_of (by decide +kernel) (Nat.le_of_ble_eq_true rfl) h
