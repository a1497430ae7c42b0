/-! LineRules$Past.forget -/
theorem d_H_forget_0 : decode me_H_forget.2.1 0 = .ok (.aload_n 0, 1) := by decide +kernel
theorem d_H_forget_1 : decode me_H_forget.2.1 1 = .ok (.iconst 0, 1) := by decide +kernel
theorem d_H_forget_2 : decode me_H_forget.2.1 2 = .ok (.putfield 25, 3) := by decide +kernel
theorem d_H_forget_5 : decode me_H_forget.2.1 5 = .ok (.aload_n 0, 1) := by decide +kernel
theorem d_H_forget_6 : decode me_H_forget.2.1 6 = .ok (.iconst 0, 1) := by decide +kernel
theorem d_H_forget_7 : decode me_H_forget.2.1 7 = .ok (.putfield 32, 3) := by decide +kernel
theorem d_H_forget_10 : decode me_H_forget.2.1 10 = .ok (.return_, 1) := by decide +kernel
abbrev G_H_forget_0 (l : Launch) (v : gs_V) (n : Nat) (post : gs_S → Prop) (σ : gs_S) : Prop := gG l v lyC 42 me_H_forget n (qV v lyC 42 post) 0 [(0, .ref (v.2.2 37))] [] σ
set_option maxRecDepth 20000 in
set_option maxHeartbeats 1000000 in
theorem T_H_forget_0 {l : Launch} {v : gs_V} {n : Nat} {post : gs_S → Prop} {σ : gs_S} (h : post (gs_pI (gs_pI σ 37 6 0) 37 8 0)) : G_H_forget_0 l v n post σ := by
  refine g_aload_n d_H_forget_0 0 rfl rfl ?_
  refine g_iconst d_H_forget_1 (x := 0) (by decide) ?_
  refine g_putI d_H_forget_2 fp_H_25 (by decide) rfl rfl ⟨rfl, rfl⟩ ?_
  refine g_aload_n d_H_forget_5 0 rfl rfl ?_
  refine g_iconst d_H_forget_6 (x := 0) (by decide) ?_
  refine g_putI d_H_forget_7 fp_H_32 (by decide) rfl rfl ⟨rfl, rfl⟩ ?_
  exact g_vret d_H_forget_10 rfl h
theorem E_H_forget {l : Launch} {v : gs_V} {n : Nat} {post : gs_S → Prop} {σ : gs_S} (h : G_H_forget_0 l v n post σ) : gM l v lyC 42 me_H_forget (n + 1) [.ref (v.2.2 37)] σ (qV v lyC 42 post) := gM_of (by decide +kernel) (Nat.le_of_ble_eq_true rfl) h
