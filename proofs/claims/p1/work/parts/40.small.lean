/-! Numbers alone from here on: what writing does to a state, and the small methods. -/
theorem pI_eq {σ : gs_S} {k j : Nat} {x : Int32} : (gs_pI σ k j x).1 k j = x := by simp [gs_pI, va_up, upd]
theorem pI_k {σ : gs_S} {k j k' : Nat} {x : Int32} (h : k' ≠ k) : (gs_pI σ k j x).1 k' = σ.1 k' := by simp [gs_pI, va_up, h]
theorem pI_j {σ : gs_S} {k j j' : Nat} {x : Int32} (h : j' ≠ j) : (gs_pI σ k j x).1 k j' = σ.1 k j' := by simp [gs_pI, va_up, upd, h]
theorem pI_row {σ : gs_S} {k j : Nat} {x : Int32} : (gs_pI σ k j x).1 k = upd (σ.1 k) j x := by simp [gs_pI, va_up]
theorem pI_2 {σ : gs_S} {k j : Nat} {x : Int32} : (gs_pI σ k j x).2 = σ.2 := rfl
theorem pL_1 {σ : gs_S} {k j : Nat} {x : Int64} : (gs_pL σ k j x).1 = σ.1 := rfl
theorem pL_3 {σ : gs_S} {k j : Nat} {x : Int64} : (gs_pL σ k j x).2.2 = σ.2.2 := rfl
theorem pL_eq {σ : gs_S} {k j : Nat} {x : Int64} : (gs_pL σ k j x).2.1 k j = x := by simp [gs_pL, va_up, vp_updL]
theorem pL_k {σ : gs_S} {k j k' : Nat} {x : Int64} (h : k' ≠ k) : (gs_pL σ k j x).2.1 k' = σ.2.1 k' := by simp [gs_pL, va_up, h]
theorem pL_row {σ : gs_S} {k j : Nat} {x : Int64} : (gs_pL σ k j x).2.1 k = vp_updL (σ.2.1 k) j x := by simp [gs_pL, va_up]
theorem pA_row {σ : gs_S} {k : Nat} {f : Nat → Int32} : (gs_pA σ k f).1 k = f := by simp [gs_pA, va_up]
theorem pA_k {σ : gs_S} {k k' : Nat} {f : Nat → Int32} (h : k' ≠ k) : (gs_pA σ k f).1 k' = σ.1 k' := by simp [gs_pA, va_up, h]
theorem pA_2 {σ : gs_S} {k : Nat} {f : Nat → Int32} : (gs_pA σ k f).2 = σ.2 := rfl
theorem pB_row {σ : gs_S} {k : Nat} {f : Nat → Int64} : (gs_pB σ k f).2.1 k = f := by simp [gs_pB, va_up]
theorem pB_k {σ : gs_S} {k k' : Nat} {f : Nat → Int64} (h : k' ≠ k) : (gs_pB σ k f).2.1 k' = σ.2.1 k' := by simp [gs_pB, va_up, h]
theorem pB_1 {σ : gs_S} {k : Nat} {f : Nat → Int64} : (gs_pB σ k f).1 = σ.1 := rfl
theorem pB_3 {σ : gs_S} {k : Nat} {f : Nat → Int64} : (gs_pB σ k f).2.2 = σ.2.2 := rfl
theorem pI_pA {σ : gs_S} {k j : Nat} {f : Nat → Int32} {x : Int32} : gs_pI (gs_pA σ k f) k j x = gs_pA σ k (upd f j x) := by
  simp only [gs_pI, gs_pA, gs_up1, bx_uu]
theorem pL_pB {σ : gs_S} {k j : Nat} {f : Nat → Int64} {x : Int64} : gs_pL (gs_pB σ k f) k j x = gs_pB σ k (vp_updL f j x) := by
  simp only [gs_pL, gs_pB, gs_up1, bx_uu]
theorem up_id {α : Type} (f : Nat → α) (k : Nat) : va_up f k (f k) = f := by
  funext j
  by_cases h : j = k
  · subst h; rw [gs_up1]
  · rw [gs_upn h]
theorem pA_id {σ : gs_S} {k : Nat} : gs_pA σ k (σ.1 k) = σ := by
  show (va_up σ.1 k (σ.1 k), σ.2) = σ
  rw [up_id]
theorem pB_id {σ : gs_S} {k : Nat} : gs_pB σ k (σ.2.1 k) = σ := by
  show (σ.1, va_up σ.2.1 k (σ.2.1 k), σ.2.2) = σ
  rw [up_id]
theorem pA_pA {σ : gs_S} {k : Nat} {f g : Nat → Int32} : gs_pA (gs_pA σ k f) k g = gs_pA σ k g := by
  show (va_up (va_up σ.1 k f) k g, σ.2) = _
  rw [bx_uu]; rfl
-- a filled row
def fl32 (f : Nat → Int32) (i : Nat) (x : Int32) : Nat → Int32 := fun j => if j < i then x else f j
def fl64 (f : Nat → Int64) (i : Nat) (x : Int64) : Nat → Int64 := fun j => if j < i then x else f j
theorem fl32_0 {f : Nat → Int32} {x : Int32} : fl32 f 0 x = f := by funext j; simp [fl32]
theorem fl64_0 {f : Nat → Int64} {x : Int64} : fl64 f 0 x = f := by funext j; simp [fl64]
theorem fl32_s {f : Nat → Int32} {x : Int32} {i : Nat} : upd (fl32 f i x) i x = fl32 f (i + 1) x := by
  funext j
  by_cases h : j = i
  · subst h; simp [upd, fl32]
  · simp only [upd, fl32, h, if_false]
    by_cases h2 : j < i
    · rw [if_pos h2, if_pos (by omega)]
    · rw [if_neg h2, if_neg (by omega)]
theorem fl64_s {f : Nat → Int64} {x : Int64} {i : Nat} : vp_updL (fl64 f i x) i x = fl64 f (i + 1) x := by
  funext j
  by_cases h : j = i
  · subst h; simp [vp_updL, fl64]
  · simp only [vp_updL, fl64, h, if_false]
    by_cases h2 : j < i
    · rw [if_pos h2, if_pos (by omega)]
    · rw [if_neg h2, if_neg (by omega)]
section K0
variable {l : Launch} {v v1 v2 : gs_V} {n : Nat} {σ σ1 σ2 : gs_S}
theorem k_fillI_loop {post : gs_S → Prop} {q len : Nat} {x : Int32} (hq : q < 42 ∧ lyC q = .inl (0, len, 0)) (hl : len < 2 ^ 31) (hp : post (gs_pA σ q (fl32 (σ.1 q) len x))) : ∀ d i, i + d = len → G_Y_fillI_5 l v n post (gs_pA σ q (fl32 (σ.1 q) i x)) q x (nI i) (Int32.ofNat len) := by
  intro d
  induction d with
  | zero =>
    intro i hi
    refine T_Y_fillI_5 hq ⟨fun _ => ?_, fun h => absurd (nI_le (a := len) (b := i) (by omega) (by omega)) h⟩
    rw [show i = len by omega]
    exact hp
  | succ d ih =>
    intro i hi
    refine T_Y_fillI_5 hq ⟨fun h => absurd h (nI_ge (by omega) hl), fun _ => ⟨vp_in_nI (by omega) hl, ?_⟩⟩
    rw [nI_clamp (by omega), pI_pA, fl32_s, nI_1]
    exact ih (i + 1) (by omega)
theorem k_fillI {post : gs_S → Prop} {q len : Nat} {x : Int32} (hq : q < 42 ∧ lyC q = .inl (0, len, 0)) (hl : len < 2 ^ 31) (hp : post (gs_pA σ q (fl32 (σ.1 q) len x))) : gM l v lyC 42 me_Y_fillI (n + 1) [.ref (v.2.2 q), .int x] σ (qV v lyC 42 post) := by
  refine E_Y_fillI (T_Y_fillI_0 hq ?_)
  have h := k_fillI_loop (l := l) (v := v) (n := n) hq hl hp len 0 (by omega)
  rw [fl32_0, pA_id] at h
  exact h
theorem k_fillJ_loop {post : gs_S → Prop} {q len : Nat} {x : Int64} (hq : q < 42 ∧ lyC q = .inl (1, len, 0)) (hl : len < 2 ^ 31) (hp : post (gs_pB σ q (fl64 (σ.2.1 q) len x))) : ∀ d i, i + d = len → G_Y_fillJ_6 l v n post (gs_pB σ q (fl64 (σ.2.1 q) i x)) q x (nI i) (Int32.ofNat len) := by
  intro d
  induction d with
  | zero =>
    intro i hi
    refine T_Y_fillJ_6 hq ⟨fun _ => ?_, fun h => absurd (nI_le (a := len) (b := i) (by omega) (by omega)) h⟩
    rw [show i = len by omega]
    exact hp
  | succ d ih =>
    intro i hi
    refine T_Y_fillJ_6 hq ⟨fun h => absurd h (nI_ge (by omega) hl), fun _ => ⟨vp_in_nI (by omega) hl, ?_⟩⟩
    rw [nI_clamp (by omega), pL_pB, fl64_s, nI_1]
    exact ih (i + 1) (by omega)
theorem k_fillJ {post : gs_S → Prop} {q len : Nat} {x : Int64} (hq : q < 42 ∧ lyC q = .inl (1, len, 0)) (hl : len < 2 ^ 31) (hp : post (gs_pB σ q (fl64 (σ.2.1 q) len x))) : gM l v lyC 42 me_Y_fillJ (n + 1) [.ref (v.2.2 q), .long x] σ (qV v lyC 42 post) := by
  refine E_Y_fillJ (T_Y_fillJ_0 hq ?_)
  have h := k_fillJ_loop (l := l) (v := v) (n := n) hq hl hp len 0 (by omega)
  rw [fl64_0, pB_id] at h
  exact h
theorem k_C_clear {post : gs_S → Prop} (hp : post (gs_pA σ 11 (fl32 (σ.1 11) 64 0))) : gM l v lyC 42 me_C_clear (n + 2) [.ref (v.2.2 10)] σ (qV v lyC 42 post) :=
  E_C_clear (T_C_clear_0 (k_fillI ⟨by decide, rfl⟩ (by decide) hp))
theorem k_H_forget {post : gs_S → Prop} (hp : post (gs_pI (gs_pI σ 37 6 0) 37 8 0)) : gM l v lyC 42 me_H_forget (n + 1) [.ref (v.2.2 37)] σ (qV v lyC 42 post) := E_H_forget (T_H_forget_0 hp)
theorem k_C_resize {post : gs_S → Prop} {x : Int32} (hp : post (gs_pA (gs_pI σ 10 1 x) 11 (fl32 (σ.1 11) 64 0))) : gM l v lyC 42 me_C_resize (n + 3) [.ref (v.2.2 10), .int x] σ (qV v lyC 42 post) :=
  E_C_resize (T_C_resize_0 (k_C_clear (by rw [pI_k (by decide)]; exact hp)))
theorem nar_b0 : narrow .boolean (.int 0) = .int 0 := rfl
theorem nar_b1 : narrow .boolean (.int 1) = .int 1 := rfl
theorem k_C_has {post : Int32 → gs_S → Prop} {x : Int32} (h0 : (x < 0 ∨ σ.1 10 1 ≤ x) → post 0 σ) (h1 : ¬ x < 0 → ¬ σ.1 10 1 ≤ x → post 1 σ) : gM l v lyC 42 me_C_has (n + 1) [.ref (v.2.2 10), .int x] σ (qI v lyC 42 post) :=
  E_C_has (T_C_has_0 ⟨fun h => T_C_has_16 (T_C_has_17 ⟨nar_b0, h0 (Or.inl h)⟩), fun h => ⟨fun h' => T_C_has_16 (T_C_has_17 ⟨nar_b0, h0 (Or.inr h')⟩), fun h' => T_C_has_17 ⟨nar_b1, h1 h h'⟩⟩⟩)
theorem k_R_hasState {post : Int32 → gs_S → Prop} {x : Int32} (h0 : (x < 0 ∨ σ.1 4 6 ≤ x) → post 0 σ) (h1 : ¬ x < 0 → ¬ σ.1 4 6 ≤ x → post 1 σ) : gM l v lyC 42 me_R_hasState (n + 1) [.ref (v.2.2 4), .int x] σ (qI v lyC 42 post) :=
  E_R_hasState (T_R_hasState_0 ⟨fun h => T_R_hasState_16 (T_R_hasState_17 ⟨nar_b0, h0 (Or.inl h)⟩), fun h => ⟨fun h' => T_R_hasState_16 (T_R_hasState_17 ⟨nar_b0, h0 (Or.inr h')⟩), fun h' => T_R_hasState_17 ⟨nar_b1, h1 h h'⟩⟩⟩)
/-! without a rule: the class's 'present' is 0, the reference's k is 0 -/
variable {Post : gs_S → gs_S → Prop} {x y : Int32}
theorem a_next (h1 : σ1.1 4 5 = 0) (h2 : σ2.1 0 2 = 0) (hP : Post σ1 σ2) : lOi l v1 v2 (n + 1) me_A_next me_M_next [.int x] σ1 σ2 Post :=
  E_A_next (T_A_next_0 ⟨fun _ => T_A_next_25 (E_M_next (T_M_next_0 ⟨fun _ => T_M_next_28 (T_M_next_29 ⟨rfl, hP⟩), fun h => absurd (by rw [h2]; decide) h⟩)), fun h => absurd h1 h⟩)
theorem a_set (h1 : σ1.1 4 5 = 0) (h2 : σ2.1 0 2 = 0) (hP : Post σ1 σ2) : lOi l v1 v2 (n + 1) me_A_set me_M_set [.int x, .int y] σ1 σ2 Post :=
  E_A_set (T_A_set_0 ⟨fun _ => T_A_set_32 (E_M_set (T_M_set_0 ⟨fun _ => T_M_set_31 ⟨rfl, hP⟩, fun h => absurd h2 h⟩)), fun h => absurd h1 h⟩)
theorem a_step (h1 : σ1.1 4 5 = 0) (h2 : σ2.1 0 2 = 0) (hP : Post σ1 σ2) : lOi l v1 v2 (n + 1) me_A_step me_M_step [.int x] σ1 σ2 Post :=
  E_A_step (T_A_step_0 ⟨fun _ => T_A_step_21 (E_M_step (T_M_step_0 ⟨fun _ => T_M_step_18 ⟨rfl, hP⟩, fun h => absurd h2 h⟩)), fun h => absurd h1 h⟩)
theorem a_population (h1 : σ1.1 4 5 = 0) (h2 : σ2.1 0 2 = 0) (hP : Post σ1 σ2) : lOi l v1 v2 (n + 1) me_A_population me_M_population [.int x] σ1 σ2 Post :=
  E_A_population (T_A_population_0 ⟨fun _ => T_A_population_21 (E_M_population (T_M_population_0 ⟨fun _ => T_M_population_19 ⟨rfl, hP⟩, fun h => absurd h2 h⟩)), fun h => absurd h1 h⟩)
theorem a_surjective (h1 : σ1.1 4 5 = 0) (h2 : σ2.1 0 2 = 0) (hP : Post σ1 σ2) : lOi l v1 v2 (n + 1) me_A_surjective me_M_surjective [] σ1 σ2 Post :=
  E_A_surjective (T_A_surjective_0 ⟨fun h => absurd h1 h, fun _ => E_M_surjective (T_M_surjective_0 ⟨fun h => absurd h2 h, fun _ => ⟨rfl, hP⟩⟩)⟩)
theorem a_injective (h1 : σ1.1 4 5 = 0) (h2 : σ2.1 0 2 = 0) (hP : Post σ1 σ2) : lOi l v1 v2 (n + 1) me_A_injective me_M_injective [] σ1 σ2 Post :=
  E_A_injective (T_A_injective_0 ⟨fun h => absurd h1 h, fun _ => E_M_injective (T_M_injective_0 ⟨fun h => absurd h2 h, fun _ => ⟨rfl, hP⟩⟩)⟩)
theorem a_inverse (h1 : σ1.1 4 5 = 0) (h2 : σ2.1 0 2 = 0) (hP : Post σ1 σ2) : lOi l v1 v2 (n + 1) me_A_inverse me_M_inverse [.int x] σ1 σ2 Post :=
  E_A_inverse (T_A_inverse_0 ⟨fun _ => T_A_inverse_19 (E_M_inverse (T_M_inverse_0 ⟨fun _ => T_M_inverse_16 ⟨rfl, hP⟩, fun h => absurd h2 h⟩)), fun h => absurd h1 h⟩)
theorem a_undo (h1 : σ1.1 4 5 = 0) (h2 : σ2.1 0 2 = 0) (hP : Post σ1 σ2) : lOi l v1 v2 (n + 1) me_A_undo me_M_undo [.int x] σ1 σ2 Post :=
  E_A_undo (T_A_undo_0 ⟨fun _ => T_A_undo_22 (E_M_undo (T_M_undo_0 ⟨fun h => absurd h2 h, fun _ => ⟨rfl, hP⟩⟩)), fun h => absurd h1 h⟩)
theorem a_conserved (h1 : σ1.1 4 5 = 0) (h2 : σ2.1 0 2 = 0) (hP : Post σ1 σ2) : lOi l v1 v2 (n + 1) me_A_conserved me_M_conserved [] σ1 σ2 Post :=
  E_A_conserved (T_A_conserved_0 ⟨fun _ => T_A_conserved_21 (E_M_conserved (T_M_conserved_0 ⟨fun h => absurd h2 h, fun _ => ⟨rfl, hP⟩⟩)), fun h => absurd h1 h⟩)
theorem a_weight (h1 : σ1.1 4 5 = 0) (h2 : σ2.1 0 2 = 0) (hP : Post σ1 σ2) : lOi l v1 v2 (n + 1) me_A_weight me_M_weight [.int x, .int y] σ1 σ2 Post :=
  E_A_weight (T_A_weight_0 ⟨fun _ => T_A_weight_23 (E_M_weight (T_M_weight_0 ⟨fun h => absurd h2 h, fun _ => ⟨rfl, hP⟩⟩)), fun h => absurd h1 h⟩)
theorem a_orphan (h1 : σ1.1 4 5 = 0) (h2 : σ2.1 0 2 = 0) (hP : Post σ1 σ2) : lOi l v1 v2 (n + 1) me_A_orphan me_M_orphan [] σ1 σ2 Post :=
  E_A_orphan (T_A_orphan_0 ⟨fun _ => T_A_orphan_21 (E_M_orphan (T_M_orphan_0 ⟨fun h => absurd h2 h, fun _ => ⟨rfl, hP⟩⟩)), fun h => absurd h1 h⟩)
theorem a_orphanAt (h1 : σ1.1 4 5 = 0) (h2 : σ2.1 0 2 = 0) (hP : Post σ1 σ2) : lOi l v1 v2 (n + 1) me_A_orphanAt me_M_orphanAt [.int x] σ1 σ2 Post :=
  E_A_orphanAt (T_A_orphanAt_0 ⟨fun _ => T_A_orphanAt_22 (E_M_orphanAt (T_M_orphanAt_0 ⟨fun h => absurd h2 h, fun _ => ⟨rfl, hP⟩⟩)), fun h => absurd h1 h⟩)
theorem a_before (h1 : σ1.1 4 5 = 0) (h2 : σ2.1 0 2 = 0) (hP : Post σ1 σ2) : lOi l v1 v2 (n + 1) me_A_before me_M_before [] σ1 σ2 Post :=
  E_A_before (T_A_before_0 ⟨fun h => absurd h1 h, fun _ => E_M_before (T_M_before_0 ⟨fun h => absurd h2 h, fun _ => ⟨rfl, hP⟩⟩)⟩)
theorem a_beforeAt (h1 : σ1.1 4 5 = 0) (h2 : σ2.1 0 2 = 0) (hP : Post σ1 σ2) : lOi l v1 v2 (n + 1) me_A_beforeAt me_M_beforeAt [.int x] σ1 σ2 Post :=
  E_A_beforeAt (T_A_beforeAt_0 ⟨fun _ => T_A_beforeAt_22 (E_M_beforeAt (T_M_beforeAt_0 ⟨fun h => absurd h2 h, fun _ => ⟨rfl, hP⟩⟩)), fun h => absurd h1 h⟩)
theorem a_ways (h1 : σ1.1 4 5 = 0) (h2 : σ2.1 0 2 = 0) (hP : Post σ1 σ2) : lOl l v1 v2 (n + 1) me_A_ways me_M_ways [] σ1 σ2 Post :=
  E_A_ways (T_A_ways_0 ⟨fun _ => T_A_ways_23 (E_M_ways (T_M_ways_0 ⟨fun h => absurd h2 h, fun _ => ⟨rfl, hP⟩⟩)), fun h => absurd h1 h⟩)
end K0
