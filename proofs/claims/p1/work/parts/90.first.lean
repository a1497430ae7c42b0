theorem p1_step (l : Launch) (v1 v2 : gs_V) {Post : gs_S → gs_S → Prop} (hP : ∀ σ1 σ2, Post σ1 σ2) : lSt l v1 v2 1000 sgC sgM Post := by
  intro x y
  have h1 : sgC.1 4 5 = 0 := rfl
  have h2 : sgM.1 0 2 = 0 := rfl
  have hT : rT sgC sgM 0 (fun _ => 0) := ⟨by decide, rfl, rfl, fun j hj => absurd hj (Nat.not_lt_zero j)⟩
  have hR : rR sgC sgM 1 := ⟨by decide, by decide, rfl, rfl, fun j _ => rfl⟩
  exact ⟨hP _ _, o_load (n := 998) hT (hP _ _) (fun _ _ _ _ => hP _ _), o_rule0 (n := 997) rfl rfl (hP _ _), a_next (n := 999) h1 h2 (hP _ _), o_ring (n := 996) hR (hP _ _) (fun _ _ _ => hP _ _), a_set (n := 999) h1 h2 (hP _ _), o_get (n := 998) hR (hP _ _), a_step (n := 999) h1 h2 (hP _ _), a_population (n := 999) h1 h2 (hP _ _), a_surjective (n := 999) h1 h2 (hP _ _), a_injective (n := 999) h1 h2 (hP _ _), a_inverse (n := 999) h1 h2 (hP _ _), a_undo (n := 999) h1 h2 (hP _ _), a_conserved (n := 999) h1 h2 (hP _ _), a_weight (n := 999) h1 h2 (hP _ _), a_orphan (n := 999) h1 h2 (hP _ _), a_orphanAt (n := 999) h1 h2 (hP _ _), a_before (n := 999) h1 h2 (hP _ _), a_beforeAt (n := 999) h1 h2 (hP _ _), a_ways (n := 999) h1 h2 (hP _ _)⟩
