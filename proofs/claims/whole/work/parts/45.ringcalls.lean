/-! The obligations of next, set, step, population, with a rule. -/
section K5s
variable {l : Launch} {v v1 v2 : gs_V} {n : Nat} {σ σ1 σ2 : gs_S} {Post : gs_S → gs_S → Prop} {x y : Int32} {K W c : Nat} {tb g : Nat → Nat}
theorem o_next (hp : ¬ σ1.1 4 5 = 0) (hR : okR K W tb) (hC : cR σ1 K W tb) (hM : mR σ2 K W tb) (hP : Post σ1 σ2) : lOi l v1 v2 (n + 1) me_A_next me_M_next [.int x] σ1 σ2 Post := by
  have hK := hR.2.1
  have hK2 := hR.1
  have hKW := pw_le hR.2.1 hR.2.2.2.1
  have hk0 : ¬ σ2.1 0 2 ≤ 0 := by rw [hM.1]; exact nI_nle (by omega) (by omega)
  refine E_A_next (T_A_next_0 (br_f hp ?_))
  rcases pk_ix x (n := K ^ W) (by omega) with h | h | ⟨j, hj, rfl⟩
  · exact br_t h (T_A_next_25 (E_M_next (T_M_next_0 (br_f hk0 (br_t h (T_M_next_28 (T_M_next_29 ⟨rfl, hP⟩)))))))
  · have hx : ¬ x < 0 := fun q => absurd (Int32.lt_of_le_of_lt h q) (nI_pos (by omega))
    refine br_f hx (br_f (by rw [hC.2.2.1]; exact Int32.not_lt.mpr h) (T_A_next_25 (E_M_next (T_M_next_0 (br_f hk0 (br_f hx (br_t (by rw [hM.2.2.2.1]; exact h) (T_M_next_28 (T_M_next_29 ⟨rfl, hP⟩)))))))))
  · refine br_f (nI_pos (by omega)) (br_t (by rw [hC.2.2.1]; exact nI_lt hj (by omega)) ⟨vp_in_nI (by omega) (by decide), ?_⟩)
    refine E_M_next (T_M_next_0 (br_f hk0 (br_f (nI_pos (by omega)) (br_f (by rw [hM.2.2.2.1]; exact nI_ge hj (by omega)) ⟨vp_in_nI (by omega) (by decide), T_M_next_29 ⟨?_, hP⟩⟩))))
    rw [nI_clamp (by omega), hC.2.2.2.2 j hj, hM.2.2.2.2 j hj]
def afC_set (σ : gs_S) (i s : Nat) : gs_S := gs_pI (gs_pI (gs_pI σ 11 i (nI s)) 37 6 0) 37 8 0
def afM_set (σ : gs_S) (i s : Nat) : gs_S := gs_pI (gs_pI σ 3 i (nI s)) 0 47 0
theorem o_set (hp : ¬ σ1.1 4 5 = 0) (hR : okR K W tb) (hC : cR σ1 K W tb) (hM : mR σ2 K W tb) (hr : rR σ1 σ2 c) (hP : Post σ1 σ2) (hP1 : ∀ i s, i < c → s < K → Post (afC_set σ1 i s) (afM_set σ2 i s)) : lOi l v1 v2 (n + 2) me_A_set me_M_set [.int x, .int y] σ1 σ2 Post := by
  obtain ⟨hc1, hc2, e1, e2, e3⟩ := hr
  have hK := hR.2.1
  have hK2 := hR.1
  have hk0 : ¬ σ2.1 0 2 = 0 := by rw [hM.1]; exact nI_ne0 (by omega) (by omega)
  refine E_A_set (T_A_set_0 (br_f hp ?_))
  rcases pk_ix x (n := c) (by omega) with h | h | ⟨i, hi, rfl⟩
  · exact k_C_has (fun _ => br_t rfl (T_A_set_32 (E_M_set (T_M_set_0 (br_f hk0 (br_t h (T_M_set_31 ⟨rfl, hP⟩))))))) (fun h' _ => absurd h h')
  · have hx : ¬ x < 0 := fun q => absurd (Int32.lt_of_le_of_lt h q) (nI_pos (by omega))
    exact k_C_has (fun _ => br_t rfl (T_A_set_32 (E_M_set (T_M_set_0 (br_f hk0 (br_f hx (br_t (by rw [e2]; exact h) (T_M_set_31 ⟨rfl, hP⟩)))))))) (fun _ h' => absurd (by rw [e1]; exact h) h')
  · have hx : ¬ nI i < 0 := nI_pos (by omega)
    have hxc : ¬ σ2.1 0 7 ≤ nI i := by rw [e2]; exact nI_ge hi (by omega)
    refine k_C_has (fun h => ?_) (fun _ _ => br_f (by decide) ?_)
    · rcases h with h | h
      · exact absurd h hx
      · rw [e1] at h; exact absurd h (nI_ge hi (by omega))
    rcases pk_ix y (n := K) (by omega) with h | h | ⟨s, hs, rfl⟩
    · refine k_R_hasState (fun _ => ⟨fun q => absurd rfl q, fun _ => T_A_set_32 ?_⟩) (fun h' _ => absurd h h')
      exact E_M_set (T_M_set_0 (br_f hk0 (br_f hx (br_f hxc (br_t h (T_M_set_31 ⟨rfl, hP⟩))))))
    · have hy : ¬ y < 0 := fun q => absurd (Int32.lt_of_le_of_lt h q) (nI_pos (by omega))
      refine k_R_hasState (fun _ => ⟨fun q => absurd rfl q, fun _ => T_A_set_32 ?_⟩) (fun _ h' => absurd (by rw [hC.1]; exact h) h')
      exact E_M_set (T_M_set_0 (br_f hk0 (br_f hx (br_f hxc (br_f hy (br_f (by rw [hM.1]; exact Int32.not_lt.mpr h) (T_M_set_31 ⟨rfl, hP⟩)))))))
    · refine k_R_hasState (fun h => ?_) (fun _ _ => ⟨fun _ => ⟨vp_in_nI (by omega) (by decide), vp_in_nI (by omega) (by decide), k_H_forget ?_⟩, fun q => absurd q (by decide)⟩)
      · rcases h with h | h
        · exact absurd h (nI_pos (by omega))
        · rw [hC.1] at h; exact absurd h (nI_ge hs (by omega))
      · rw [nI_clamp (by omega)]
        refine E_M_set (T_M_set_0 (br_f hk0 (br_f hx (br_f hxc (br_f (nI_pos (by omega)) (br_t (by rw [hM.1]; exact nI_lt hs (by omega)) ⟨vp_in_nI (by omega) (by decide), vp_in_nI (by omega) (by decide), ?_⟩))))))
        rw [nI_clamp (by omega)]
        exact ⟨e3 i (by omega), hP1 i s hi hs⟩
theorem o_step (hp : ¬ σ1.1 4 5 = 0) (hR : okR K W tb) (hC : cR σ1 K W tb) (hM : mR σ2 K W tb) (hr : rR σ1 σ2 c) (eg : ∀ j, j < c → σ2.1 3 j = nI (g j)) (hg : ∀ j, j < c → g j < K) (hP : Post σ1 σ2)
    (hP1 : ∀ m σ1' σ2', sX (fun k j => k = 11 ∨ k = 12 ∨ k = 13 ∨ (k = 37 ∧ (j = 6 ∨ j = 8))) σ1 σ1' → sX (fun k j => k = 3 ∨ k = 4 ∨ k = 29 ∨ (k = 0 ∧ j = 47)) σ2 σ2' → (∀ j, j < 64 → σ1'.1 11 j = σ2'.1 3 j) → (∀ j, j < c → σ2'.1 3 j = nI (itr K W c tb m g j)) → (∀ j, c ≤ j → σ2'.1 3 j = σ2.1 3 j) → σ1'.1 37 6 = 0 → σ1'.1 37 8 = 0 → σ2'.1 0 47 = 0 → Post σ1' σ2') : lOi l v1 v2 (n + 4) me_A_step me_M_step [.int x] σ1 σ2 Post := by
  obtain ⟨hc1, hc2, e1, e2, e3⟩ := hr
  have hK := hR.2.1
  have hK2 := hR.1
  have hk0 : ¬ σ2.1 0 2 = 0 := by rw [hM.1]; exact nI_ne0 (by omega) (by omega)
  refine E_A_step (T_A_step_0 (br_f hp ?_))
  by_cases hx : x < 0
  · exact br_t hx (T_A_step_21 (E_M_step (T_M_step_0 (br_f hk0 (br_t hx (T_M_step_18 ⟨rfl, hP⟩))))))
  by_cases hy : x ≤ 200
  · obtain ⟨m, -, hm, rfl⟩ := nI_rng (a := 0) (b := 200) rfl rfl hx hy
    refine br_f hx (br_t hy (k_H_forget ?_))
    have hX0 : sX (fun k j => k = 11 ∨ k = 12 ∨ k = 13 ∨ (k = 37 ∧ (j = 6 ∨ j = 8))) σ1 (gs_pI (gs_pI σ1 37 6 0) 37 8 0) := (sX.rf.I (by omega)).I (by omega)
    have hC' : cR (gs_pI (gs_pI σ1 37 6 0) 37 8 0) K W tb := hC.kept hX0 (fun _ => by omega) (fun _ => by omega)
    refine k_run hR hC' hc1 hc2 ((hX0 10 1 (by omega)).1.trans e1) (g := g) (fun j hj => by rw [pI_k (by decide), pI_k (by decide), e3 j (by omega)]; exact eg j hj) hg hm (fun σ1' hX1 f1 f2 => ?_)
    refine E_M_step (T_M_step_0 (br_f hk0 (br_f hx (br_t hy ?_))))
    refine k_M_step hR hM hc1 hc2 e2 eg hg hm (fun σ2' hX2 g1 g2 g3 => ⟨rfl, ?_⟩)
    refine hP1 m σ1' σ2' (hX0.tr (hX1.mono (fun k j h => by omega))) hX2 (fun j hj => ?_) g1 g2 ?_ ?_ g3
    · by_cases hjc : j < c
      · rw [f1 j hjc, g1 j hjc]
      · rw [f2 j (by omega), g2 j (by omega), pI_k (by decide), pI_k (by decide)]
        exact e3 j hj
    · rw [(hX1 37 6 (by omega)).1, pI_j (by decide), pI_eq]
    · rw [(hX1 37 8 (by omega)).1, pI_eq]
  · exact br_f hx (br_f hy (T_A_step_21 (E_M_step (T_M_step_0 (br_f hk0 (br_f hx (br_f hy (T_M_step_18 ⟨rfl, hP⟩))))))))
theorem k_countOf {post : Int32 → gs_S → Prop} {s : Nat} (hs : s < 2 ^ 31) (hc2 : c ≤ 64) (ec : σ.1 10 1 = nI c) (eg : ∀ j, j < c → σ.1 11 j = nI (g j)) (hg : ∀ j, j < c → g j < 2 ^ 31) (hp : post (nI (cn32 g s c)) σ) : gM l v lyC 42 me_C_countOf (n + 1) [.ref (v.2.2 10), .int (nI s)] σ (qI v lyC 42 post) := by
  refine E_C_countOf (T_C_countOf_0 ?_)
  refine dn0 (N := c) (P := fun i => G_C_countOf_4 l v n post σ (nI s) (nI (cn32 g s i)) (nI i)) ?_ ?_
  · exact T_C_countOf_4 (br_t (by rw [ec]; exact nI_le (Nat.le_refl c) (by omega)) hp)
  · intro i hi ih
    refine T_C_countOf_4 (br_f (by rw [ec]; exact nI_ge hi (by omega)) ⟨vp_in_nI (by omega) (by decide), ?_⟩)
    rw [nI_clamp (by omega), eg i hi]
    have ih' : G_C_countOf_4 l v n post σ (nI s) (nI (cn32 g s i + (if g i = s then 1 else 0))) (nI (i + 1)) := ih
    refine ⟨fun h => T_C_countOf_25 ?_, fun h => T_C_countOf_25 ?_⟩
    · rw [if_neg (fun q => h (by rw [q]))] at ih'
      rw [nI_1]; exact ih'
    · rw [if_pos ((nI_nat (hg i hi) hs).mp h)] at ih'
      rw [nI_1, nI_1]; exact ih'
theorem k_M_pop {post : Int32 → gs_S → Prop} {s : Nat} (hs : s < 2 ^ 31) (hc2 : c ≤ 64) (ec : σ.1 0 7 = nI c) (eg : ∀ j, j < c → σ.1 3 j = nI (g j)) (hg : ∀ j, j < c → g j < 2 ^ 31) (hp : post (nI (cn32 g s c)) σ) : G_M_population_25 l v n post σ (nI s) 0 0 := by
  refine dn0 (N := c) (P := fun i => G_M_population_25 l v n post σ (nI s) (nI (cn32 g s i)) (nI i)) ?_ ?_
  · exact T_M_population_25 (br_t (by rw [ec]; exact nI_le (Nat.le_refl c) (by omega)) hp)
  · intro i hi ih
    refine T_M_population_25 (br_f (by rw [ec]; exact nI_ge hi (by omega)) ⟨vp_in_nI (by omega) (by decide), ?_⟩)
    rw [nI_clamp (by omega), eg i hi]
    have ih' : G_M_population_25 l v n post σ (nI s) (nI (cn32 g s i + (if g i = s then 1 else 0))) (nI (i + 1)) := ih
    refine ⟨fun h => T_M_population_50 ?_, fun h => T_M_population_50 ?_⟩
    · rw [if_neg (fun q => h (by rw [q]))] at ih'
      rw [nI_1]; exact ih'
    · rw [if_pos ((nI_nat (hg i hi) hs).mp h)] at ih'
      rw [nI_1, nI_1]; exact ih'
theorem o_population (hp : ¬ σ1.1 4 5 = 0) (hR : okR K W tb) (hC : cR σ1 K W tb) (hM : mR σ2 K W tb) (hr : rR σ1 σ2 c) (eg : ∀ j, j < c → σ2.1 3 j = nI (g j)) (hg : ∀ j, j < c → g j < K) (hP : Post σ1 σ2) : lOi l v1 v2 (n + 2) me_A_population me_M_population [.int x] σ1 σ2 Post := by
  obtain ⟨hc1, hc2, e1, e2, e3⟩ := hr
  have hK := hR.2.1
  have hK2 := hR.1
  have hk0 : ¬ σ2.1 0 2 = 0 := by rw [hM.1]; exact nI_ne0 (by omega) (by omega)
  have hg' : ∀ j, j < c → g j < 2 ^ 31 := fun j hj => by have := hg j hj; omega
  refine E_A_population (T_A_population_0 (br_f hp ?_))
  rcases pk_ix x (n := K) (by omega) with h | h | ⟨s, hs, rfl⟩
  · refine k_R_hasState (fun _ => ⟨fun q => absurd rfl q, fun _ => T_A_population_21 ?_⟩) (fun h' _ => absurd h h')
    exact E_M_population (T_M_population_0 (br_f hk0 (br_t h (T_M_population_19 ⟨rfl, hP⟩))))
  · have hx : ¬ x < 0 := fun q => absurd (Int32.lt_of_le_of_lt h q) (nI_pos (by omega))
    refine k_R_hasState (fun _ => ⟨fun q => absurd rfl q, fun _ => T_A_population_21 ?_⟩) (fun _ h' => absurd (by rw [hC.1]; exact h) h')
    exact E_M_population (T_M_population_0 (br_f hk0 (br_f hx (br_f (by rw [hM.1]; exact Int32.not_lt.mpr h) (T_M_population_19 ⟨rfl, hP⟩)))))
  · refine k_R_hasState (fun h => ?_) (fun _ _ => ⟨fun _ => ?_, fun q => absurd q (by decide)⟩)
    · rcases h with h | h
      · exact absurd h (nI_pos (by omega))
      · rw [hC.1] at h; exact absurd h (nI_ge hs (by omega))
    · refine k_countOf (by omega) hc2 e1 (g := g) (fun j hj => by rw [e3 j (by omega)]; exact eg j hj) hg' ?_
      refine E_M_population (T_M_population_0 (br_f hk0 (br_f (nI_pos (by omega)) (br_t (by rw [hM.1]; exact nI_lt hs (by omega)) ?_))))
      exact k_M_pop (by omega) hc2 e2 eg hg' ⟨rfl, hP⟩
end K5s
