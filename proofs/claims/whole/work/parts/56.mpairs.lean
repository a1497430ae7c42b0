/-! The reference's pairs: leadsOn, comesFrom, losesSomewhere, anyPair, makesAll. -/
def mk9 (σ : gs_S) (x y : Nat) : Prop := ¬ σ.1 19 (64 * x + y) = 0
theorem win_out {K W : Nat} {tb : Nat → Nat} (hR : okR K W tb) {x s : Nat} (hx : x < K ^ (W - 1)) (hs : s < K) : x * K + s < K ^ W ∧ (x * K + s) / K = x := by
  have hK2 := hR.1
  have : (x + 1) * K ≤ K ^ (W - 1) * K := Nat.mul_le_mul_right K hx
  rw [Nat.add_mul] at this
  refine ⟨by rw [pw_s hR.2.2.1]; omega, ?_⟩
  rw [Nat.mul_comm, Nat.mul_add_div (by omega), Nat.div_eq_of_lt hs, Nat.add_zero]
theorem win_out' {K W : Nat} {tb : Nat → Nat} (hR : okR K W tb) {x u : Nat} (hu : u / K = x) : ∃ s, s < K ∧ u = x * K + s := by
  have hK2 := hR.1
  have h1 := Nat.div_add_mod u K
  have h2 := Nat.mod_lt u (show 0 < K by omega)
  rw [hu, Nat.mul_comm] at h1
  exact ⟨u % K, h2, h1.symm⟩
theorem win_in {K W : Nat} {tb : Nat → Nat} (hR : okR K W tb) {x s : Nat} (hx : x < K ^ (W - 1)) (hs : s < K) : s * K ^ (W - 1) + x < K ^ W ∧ (s * K ^ (W - 1) + x) % K ^ (W - 1) = x := by
  have : (s + 1) * K ^ (W - 1) ≤ K * K ^ (W - 1) := Nat.mul_le_mul_right _ hs
  rw [Nat.add_mul] at this
  refine ⟨by rw [pw_s hR.2.2.1, Nat.mul_comm (K ^ (W - 1)) K]; omega, ?_⟩
  rw [Nat.mul_comm, Nat.mul_add_mod, Nat.mod_eq_of_lt hx]
theorem win_in' {K W : Nat} {tb : Nat → Nat} (hR : okR K W tb) {x u : Nat} (hu : u < K ^ W) (h : u % K ^ (W - 1) = x) : ∃ s, s < K ∧ u = s * K ^ (W - 1) + x := by
  have h1 := Nat.div_add_mod u (K ^ (W - 1))
  rw [h, Nat.mul_comm] at h1
  refine ⟨u / K ^ (W - 1), ?_, h1.symm⟩
  rw [pw_s hR.2.2.1] at hu
  exact Nat.div_lt_of_lt_mul hu
section K16
variable {l : Launch} {v : gs_V} {n : Nat} {σ : gs_S} {K W : Nat} {tb : Nat → Nat}
theorem k_leadsOn {post : Int32 → gs_S → Prop} {x y : Nat} {z : Int32} (hR : okR K W tb) (hC : mR σ K W tb) (hx : x < K ^ (W - 1)) (hy : y < K ^ (W - 1))
    (hp1 : (∃ x' y', go2 K W tb x y x' y' ∧ (x' = y' ∨ (¬ z = 0 ∧ mk9 σ x' y'))) → post 1 σ) (hp0 : (¬ ∃ x' y', go2 K W tb x y x' y' ∧ (x' = y' ∨ (¬ z = 0 ∧ mk9 σ x' y'))) → post 0 σ) : gM l v lyM 33 me_M_leadsOn (n + 1) [.ref (v.2.2 0), .int (nI x), .int (nI y), .int z, .int 1] σ (qI v lyM 33 post) := by
  have hN := pw_le1 hR.2.1 hR.2.2.2.1
  have hNp := pw_pos (W := W - 1) hR.1
  have hKW := pw_le hR.2.1 hR.2.2.2.1
  have hK := hR.2.1
  have hK2 := hR.1
  have L3 : ∀ s, s ≤ K → (∀ s' t', s' < s → t' < K → tb (x * K + s') = tb (y * K + t') → ¬ ((x * K + s') % K ^ (W - 1) = (y * K + t') % K ^ (W - 1) ∨ (¬ z = 0 ∧ mk9 σ ((x * K + s') % K ^ (W - 1)) ((y * K + t') % K ^ (W - 1))))) → G_M_leadsOn_3 l v n post σ (nI x) (nI y) z 1 (nI s) := by
    refine dn ?_ ?_
    · intro hI
      refine T_M_leadsOn_3 (br_t (by rw [hC.1]; exact nI_le (Nat.le_refl _) (by omega)) (hp0 ?_))
      rintro ⟨x', y', ⟨u, w, h1, h2, h3, h4, h5, h6, h7⟩, h8⟩
      obtain ⟨s, hs, rfl⟩ := win_out' hR h3
      obtain ⟨t, ht, rfl⟩ := win_out' hR h4
      subst h6 h7
      exact hI s t hs ht h5 h8
    · intro s hs ih hI
      refine T_M_leadsOn_3 (br_f (by rw [hC.1]; exact nI_ge hs (by omega)) ?_)
      have L15 : ∀ t, t ≤ K → (∀ s' t', s' < s ∨ (s' = s ∧ t' < t) → t' < K → tb (x * K + s') = tb (y * K + t') → ¬ ((x * K + s') % K ^ (W - 1) = (y * K + t') % K ^ (W - 1) ∨ (¬ z = 0 ∧ mk9 σ ((x * K + s') % K ^ (W - 1)) ((y * K + t') % K ^ (W - 1))))) → G_M_leadsOn_15 l v n post σ (nI x) (nI y) z 1 (nI s) (nI t) := by
        refine dn ?_ ?_
        · intro hI
          refine T_M_leadsOn_15 (br_t (by rw [hC.1]; exact nI_le (Nat.le_refl _) (by omega)) ?_)
          rw [nI_1]
          exact ih (fun s' t' h1 h2 => hI s' t' (by omega) h2)
        · intro t ht ih2 hI
          have hu := win_out hR hx hs
          have hw := win_out hR hy ht
          have hm1 : (x * K + s) % K ^ (W - 1) < K ^ (W - 1) := Nat.mod_lt _ hNp
          have hm2 : (y * K + t) % K ^ (W - 1) < K ^ (W - 1) := Nat.mod_lt _ hNp
          have ht1 := hR.2.2.2.2 _ hu.1
          have ht2 := hR.2.2.2.2 _ hw.1
          have e64 : (64 : Int32) * nI ((x * K + s) % K ^ (W - 1)) + nI ((y * K + t) % K ^ (W - 1)) = nI (64 * ((x * K + s) % K ^ (W - 1)) + (y * K + t) % K ^ (W - 1)) := by
            show nI 64 * _ + _ = _
            rw [pk_mul, nI_add]
          refine T_M_leadsOn_15 (br_f (by rw [hC.1]; exact nI_ge ht (by omega)) ?_)
          rw [hC.1, hC.2.2.1, pk_mul, pk_mul, nI_add, nI_add, jR_n (by omega) hNp (by omega), jR_n (by omega) hNp (by omega), e64, nI_clamp (n := 64 * ((x * K + s) % K ^ (W - 1)) + (y * K + t) % K ^ (W - 1)) (by omega)]
          have nxt : ¬ (tb (x * K + s) = tb (y * K + t) ∧ ((x * K + s) % K ^ (W - 1) = (y * K + t) % K ^ (W - 1) ∨ (¬ z = 0 ∧ mk9 σ ((x * K + s) % K ^ (W - 1)) ((y * K + t) % K ^ (W - 1))))) → G_M_leadsOn_133 l v n post σ (nI x) (nI y) z 1 (nI s) (nI t) := fun hno => T_M_leadsOn_133 (by
            rw [nI_1]
            refine ih2 (fun s' t' h1 h2 h3 h4 => ?_)
            by_cases q : s' = s ∧ t' = t
            · rw [q.1, q.2] at h3 h4; exact hno ⟨h3, h4⟩
            · exact hI s' t' (by omega) h2 h3 h4)
          have good : ((x * K + s) % K ^ (W - 1) = (y * K + t) % K ^ (W - 1) ∨ (¬ z = 0 ∧ mk9 σ ((x * K + s) % K ^ (W - 1)) ((y * K + t) % K ^ (W - 1)))) → G_M_leadsOn_93 l v n post σ (nI x) (nI y) z 1 (nI s) (nI t) 1 := fun hg => by
            refine T_M_leadsOn_93 (br_f (by decide) ?_)
            rw [hC.1, pk_mul, pk_mul, nI_add, nI_add, nI_clamp (n := x * K + s) (by omega), nI_clamp (n := y * K + t) (by omega), hC.2.2.2.2 _ hu.1, hC.2.2.2.2 _ hw.1]
            refine ⟨vp_in_nI (by omega) (by decide), vp_in_nI (by omega) (by decide), fun h => nxt (fun q => h (by rw [q.1])), fun h => hp1 ⟨_, _, ⟨x * K + s, y * K + t, hu.1, hw.1, hu.2, hw.2, (nI_nat (by omega) (by omega)).mp h, rfl, rfl⟩, hg⟩⟩
          have bad : ¬ ((x * K + s) % K ^ (W - 1) = (y * K + t) % K ^ (W - 1) ∨ (¬ z = 0 ∧ mk9 σ ((x * K + s) % K ^ (W - 1)) ((y * K + t) % K ^ (W - 1)))) → G_M_leadsOn_92 l v n post σ (nI x) (nI y) z 1 (nI s) (nI t) := fun hg => T_M_leadsOn_92 (T_M_leadsOn_93 (br_t rfl (nxt (fun q => hg q.2))))
          refine ⟨nI_ne0 hNp (by omega), nI_ne0 hNp (by omega), fun h => ?_, fun h => good (Or.inl ((nI_nat (by omega) (by omega)).mp h))⟩
          have hne : ¬ (x * K + s) % K ^ (W - 1) = (y * K + t) % K ^ (W - 1) := fun q => h (by rw [q])
          refine ⟨fun h2 => bad (fun q => q.elim hne (fun q => q.1 h2)), fun h2 => ⟨vp_in_nI (by omega) (by decide), fun h3 => bad (fun q => q.elim hne (fun q => q.2 h3)), fun h3 => good (Or.inr ⟨h2, h3⟩)⟩⟩
      exact L15 0 (Nat.zero_le _) (fun s' t' h1 h2 => hI s' t' (by omega) h2)
  exact E_M_leadsOn (T_M_leadsOn_0 (L3 0 (Nat.zero_le _) (fun s' t' h => absurd h (Nat.not_lt_zero s'))))
theorem k_comesFrom {post : Int32 → gs_S → Prop} {x y : Nat} (hR : okR K W tb) (hC : mR σ K W tb) (hx : x < K ^ (W - 1)) (hy : y < K ^ (W - 1))
    (hp1 : (∃ x' y', go2 K W tb x' y' x y ∧ (x' = y' ∨ mk9 σ x' y')) → post 1 σ) (hp0 : (¬ ∃ x' y', go2 K W tb x' y' x y ∧ (x' = y' ∨ mk9 σ x' y')) → post 0 σ) : gM l v lyM 33 me_M_comesFrom (n + 1) [.ref (v.2.2 0), .int (nI x), .int (nI y)] σ (qI v lyM 33 post) := by
  have hN := pw_le1 hR.2.1 hR.2.2.2.1
  have hNp := pw_pos (W := W - 1) hR.1
  have hKW := pw_le hR.2.1 hR.2.2.2.1
  have hK := hR.2.1
  have hK2 := hR.1
  have L3 : ∀ s, s ≤ K → (∀ s' t', s' < s → t' < K → tb (s' * K ^ (W - 1) + x) = tb (t' * K ^ (W - 1) + y) → ¬ ((s' * K ^ (W - 1) + x) / K = (t' * K ^ (W - 1) + y) / K ∨ mk9 σ ((s' * K ^ (W - 1) + x) / K) ((t' * K ^ (W - 1) + y) / K))) → G_M_comesFrom_2 l v n post σ (nI x) (nI y) (nI s) := by
    refine dn ?_ ?_
    · intro hI
      refine T_M_comesFrom_2 (br_t (by rw [hC.1]; exact nI_le (Nat.le_refl _) (by omega)) (hp0 ?_))
      rintro ⟨x', y', ⟨u, w, h1, h2, h3, h4, h5, h6, h7⟩, h8⟩
      obtain ⟨s, hs, rfl⟩ := win_in' hR h1 h6
      obtain ⟨t, ht, rfl⟩ := win_in' hR h2 h7
      subst h3 h4
      exact hI s t hs ht h5 h8
    · intro s hs ih hI
      refine T_M_comesFrom_2 (br_f (by rw [hC.1]; exact nI_ge hs (by omega)) ?_)
      have L15 : ∀ t, t ≤ K → (∀ s' t', s' < s ∨ (s' = s ∧ t' < t) → t' < K → tb (s' * K ^ (W - 1) + x) = tb (t' * K ^ (W - 1) + y) → ¬ ((s' * K ^ (W - 1) + x) / K = (t' * K ^ (W - 1) + y) / K ∨ mk9 σ ((s' * K ^ (W - 1) + x) / K) ((t' * K ^ (W - 1) + y) / K))) → G_M_comesFrom_13 l v n post σ (nI x) (nI y) (nI s) (nI t) := by
        refine dn ?_ ?_
        · intro hI
          refine T_M_comesFrom_13 (br_t (by rw [hC.1]; exact nI_le (Nat.le_refl _) (by omega)) ?_)
          rw [nI_1]
          exact ih (fun s' t' h1 h2 => hI s' t' (by omega) h2)
        · intro t ht ih2 hI
          have hu := win_in hR hx hs
          have hw := win_in hR hy ht
          have hm1 := div_lt' hR hu.1
          have hm2 := div_lt' hR hw.1
          have ht1 := hR.2.2.2.2 _ hu.1
          have ht2 := hR.2.2.2.2 _ hw.1
          have e64 : (64 : Int32) * nI ((s * K ^ (W - 1) + x) / K) + nI ((t * K ^ (W - 1) + y) / K) = nI (64 * ((s * K ^ (W - 1) + x) / K) + (t * K ^ (W - 1) + y) / K) := by
            show nI 64 * _ + _ = _
            rw [pk_mul, nI_add]
          refine T_M_comesFrom_13 (br_f (by rw [hC.1]; exact nI_ge ht (by omega)) ?_)
          rw [hC.1, hC.2.2.1, pk_mul, pk_mul, nI_add, nI_add, pk_div (by omega) (by omega) (by omega), pk_div (by omega) (by omega) (by omega), e64, nI_clamp (n := 64 * ((s * K ^ (W - 1) + x) / K) + (t * K ^ (W - 1) + y) / K) (by omega)]
          have nxt : ¬ (tb (s * K ^ (W - 1) + x) = tb (t * K ^ (W - 1) + y) ∧ ((s * K ^ (W - 1) + x) / K = (t * K ^ (W - 1) + y) / K ∨ mk9 σ ((s * K ^ (W - 1) + x) / K) ((t * K ^ (W - 1) + y) / K))) → G_M_comesFrom_108 l v n post σ (nI x) (nI y) (nI s) (nI t) := fun hno => T_M_comesFrom_108 (by
            rw [nI_1]
            refine ih2 (fun s' t' h1 h2 h3 h4 => ?_)
            by_cases q : s' = s ∧ t' = t
            · rw [q.1, q.2] at h3 h4; exact hno ⟨h3, h4⟩
            · exact hI s' t' (by omega) h2 h3 h4)
          have good : ((s * K ^ (W - 1) + x) / K = (t * K ^ (W - 1) + y) / K ∨ mk9 σ ((s * K ^ (W - 1) + x) / K) ((t * K ^ (W - 1) + y) / K)) → G_M_comesFrom_76 l v n post σ (nI x) (nI y) (nI s) (nI t) := fun hg => by
            refine T_M_comesFrom_76 ?_
            rw [hC.2.2.1, pk_mul, pk_mul, nI_add, nI_add, nI_clamp (n := s * K ^ (W - 1) + x) (by omega), nI_clamp (n := t * K ^ (W - 1) + y) (by omega), hC.2.2.2.2 _ hu.1, hC.2.2.2.2 _ hw.1]
            refine ⟨vp_in_nI (by omega) (by decide), vp_in_nI (by omega) (by decide), fun h => nxt (fun q => h (by rw [q.1])), fun h => hp1 ⟨_, _, ⟨s * K ^ (W - 1) + x, t * K ^ (W - 1) + y, hu.1, hw.1, rfl, rfl, (nI_nat (by omega) (by omega)).mp h, hu.2, hw.2⟩, hg⟩⟩
          refine ⟨nI_ne0 (by omega) (by omega), nI_ne0 (by omega) (by omega), fun h => good (Or.inl ((nI_nat (by omega) (by omega)).mp h)), fun h => ?_⟩
          have hne : ¬ (s * K ^ (W - 1) + x) / K = (t * K ^ (W - 1) + y) / K := fun q => h (by rw [q])
          exact ⟨vp_in_nI (by omega) (by decide), fun h3 => nxt (fun q => q.2.elim hne (fun q => q h3)), fun h3 => good (Or.inr h3)⟩
      exact L15 0 (Nat.zero_le _) (fun s' t' h1 h2 => hI s' t' (by omega) h2)
  exact E_M_comesFrom (T_M_comesFrom_0 (L3 0 (Nat.zero_le _) (fun s' t' h => absurd h (Nat.not_lt_zero s'))))
def cn19 (σ : gs_S) : Nat := cq (fun p => decide (σ.1 19 p ≠ 0)) 4096
theorem cn19_le (σ : gs_S) : cn19 σ ≤ 4096 := cq_le _ _
theorem k_losesSomewhere {post : Int32 → gs_S → Prop} (hR : okR K W tb) (hW : 2 ≤ W) (hC : mR σ K W tb) (hp : ∀ σ', sX (fun k _ => k = 19) σ σ' → (dD K W tb → post 1 σ') ∧ (¬ dD K W tb → post 0 σ')) : gM l v lyM 33 me_M_losesSomewhere (n + 2) [.ref (v.2.2 0)] σ (qI v lyM 33 post) := by
  have hN := pw_le1 hR.2.1 hR.2.2.2.1
  have hNp := pw_pos (W := W - 1) hR.1
  have no : ∀ τ, sX (fun k _ => k = 19) σ τ → (∀ x y, x < K ^ (W - 1) → y < K ^ (W - 1) → mk9 τ x y → Mr K W tb x y ∧ ¬ mts K W tb x y) → (∀ x y, x < K ^ (W - 1) → y < K ^ (W - 1) → x ≠ y → (∃ x' y', go2 K W tb x' y' x y ∧ (x' = y' ∨ mk9 τ x' y')) → mk9 τ x y) → post 0 τ := by
    intro τ hX h1 h2
    refine (hp τ hX).2 (fun hD => ?_)
    obtain ⟨a, b, hM, hm⟩ := (dD_Mr hR.1 hW).mp hD
    have all : mk9 τ a b := (hM (fun x y => mk9 τ x y) (fun a x y g1 g2 => h2 x y (go2_lt hR g1).2.2.1 (go2_lt hR g1).2.2.2 g2 ⟨a, a, g1, Or.inl rfl⟩) (fun x y x' y' g0 g1 g2 => h2 x' y' (go2_lt hR g1).2.2.1 (go2_lt hR g1).2.2.2 g2 ⟨x, y, g1, Or.inr g0⟩))
    have hl := Mr_lt hR hM
    exact (h1 a b hl.1 hl.2.1 all).2 hm
  have L24 : ∀ f τ x1, sX (fun k _ => k = 19) σ τ → 4096 ≤ cn19 τ + f → (∀ x y, x < K ^ (W - 1) → y < K ^ (W - 1) → mk9 τ x y → Mr K W tb x y ∧ ¬ mts K W tb x y) → (x1 = 1 ∨ (x1 = 0 ∧ ∀ x y, x < K ^ (W - 1) → y < K ^ (W - 1) → x ≠ y → (∃ x' y', go2 K W tb x' y' x y ∧ (x' = y' ∨ mk9 τ x' y')) → mk9 τ x y)) → G_M_losesSomewhere_24 l v (n + 1) post τ x1 := by
    intro f
    induction f with
    | zero =>
      intro τ x1 hX hc h1 h4
      rcases h4 with e | ⟨e, h4⟩
      · subst e
        refine T_M_losesSomewhere_24 (br_f (by decide) ?_)
        have full : ∀ p, p < 4096 → ¬ τ.1 19 p = 0 := fun p hp' h0 => by
          have hlt : cn19 τ < cq (fun _ => true) 4096 := cq_lt 4096 (fun _ _ _ => rfl) ⟨p, hp', decide_eq_false (fun q => q h0), rfl⟩
          have := cq_le (fun _ => true) 4096
          omega
        have L32 : ∀ x, x ≤ K ^ (W - 1) → G_M_losesSomewhere_32 l v (n + 1) post τ 0 (nI x) := by
          refine dn ?_ ?_
          · refine T_M_losesSomewhere_32 (br_t (by rw [(hX 0 4 (by omega)).1, hC.2.2.1]; exact nI_le (Nat.le_refl _) (by omega)) ?_)
            exact T_M_losesSomewhere_24 (br_t rfl (no τ hX h1 (fun x y hx hy _ _ => full _ (by omega))))
          · intro x hx ih
            refine T_M_losesSomewhere_32 (br_f (by rw [(hX 0 4 (by omega)).1, hC.2.2.1]; exact nI_ge hx (by omega)) ?_)
            refine dn0 (N := K ^ (W - 1)) (P := fun y => G_M_losesSomewhere_42 l v (n + 1) post τ 0 (nI x) (nI y)) ?_ ?_
            · refine T_M_losesSomewhere_42 (br_t (by rw [(hX 0 4 (by omega)).1, hC.2.2.1]; exact nI_le (Nat.le_refl _) (by omega)) ?_)
              rw [nI_1]; exact ih
            · intro y hy ih2
              have e64 : (64 : Int32) * nI x + nI y = nI (64 * x + y) := by
                show nI 64 * _ + _ = _
                rw [pk_mul, nI_add]
              refine T_M_losesSomewhere_42 (br_f (by rw [(hX 0 4 (by omega)).1, hC.2.2.1]; exact nI_ge hy (by omega)) ?_)
              rw [e64, nI_clamp (by omega)]
              refine ⟨fun _ => T_M_losesSomewhere_105 (by rw [nI_1]; exact ih2), fun _ => ⟨vp_in_nI (by omega) (by decide), fun _ => T_M_losesSomewhere_105 (by rw [nI_1]; exact ih2), fun h => absurd h (full _ (by omega))⟩⟩
        exact L32 0 (Nat.zero_le _)
      · subst e
        exact T_M_losesSomewhere_24 (br_t rfl (no τ hX h1 h4))
    | succ f ihf =>
      intro τ x1 hX hc h1 h4
      rcases h4 with e | ⟨e, h4⟩
      · subst e
        refine T_M_losesSomewhere_24 (br_f (by decide) ?_)
        have L32 : ∀ x, x ≤ K ^ (W - 1) → ∀ τ x1, sX (fun k _ => k = 19) σ τ → (∀ x y, x < K ^ (W - 1) → y < K ^ (W - 1) → mk9 τ x y → Mr K W tb x y ∧ ¬ mts K W tb x y) → ((x1 = 1 ∧ 4096 ≤ cn19 τ + f) ∨ (x1 = 0 ∧ 4096 ≤ cn19 τ + (f + 1) ∧ ∀ x' y', x' < x → y' < K ^ (W - 1) → x' ≠ y' → (∃ a b, go2 K W tb a b x' y' ∧ (a = b ∨ mk9 τ a b)) → mk9 τ x' y')) → G_M_losesSomewhere_32 l v (n + 1) post τ x1 (nI x) := by
          refine dn ?_ ?_
          · intro τ x1 hX h1 h4
            refine T_M_losesSomewhere_32 (br_t (by rw [(hX 0 4 (by omega)).1, hC.2.2.1]; exact nI_le (Nat.le_refl _) (by omega)) ?_)
            rcases h4 with ⟨e, h4⟩ | ⟨e, h4, h5⟩
            · exact ihf τ x1 hX h4 h1 (Or.inl e)
            · subst e
              exact T_M_losesSomewhere_24 (br_t rfl (no τ hX h1 h5))
          · intro x hx ih τ x1 hX h1 h4
            refine T_M_losesSomewhere_32 (br_f (by rw [(hX 0 4 (by omega)).1, hC.2.2.1]; exact nI_ge hx (by omega)) ?_)
            have L42 : ∀ y, y ≤ K ^ (W - 1) → ∀ τ x1, sX (fun k _ => k = 19) σ τ → (∀ x y, x < K ^ (W - 1) → y < K ^ (W - 1) → mk9 τ x y → Mr K W tb x y ∧ ¬ mts K W tb x y) → ((x1 = 1 ∧ 4096 ≤ cn19 τ + f) ∨ (x1 = 0 ∧ 4096 ≤ cn19 τ + (f + 1) ∧ ∀ x' y', x' < x ∨ (x' = x ∧ y' < y) → y' < K ^ (W - 1) → x' ≠ y' → (∃ a b, go2 K W tb a b x' y' ∧ (a = b ∨ mk9 τ a b)) → mk9 τ x' y')) → G_M_losesSomewhere_42 l v (n + 1) post τ x1 (nI x) (nI y) := by
              refine dn ?_ ?_
              · intro τ x1 hX h1 h4
                refine T_M_losesSomewhere_42 (br_t (by rw [(hX 0 4 (by omega)).1, hC.2.2.1]; exact nI_le (Nat.le_refl _) (by omega)) ?_)
                rw [nI_1]
                refine ih τ x1 hX h1 ?_
                rcases h4 with h4 | ⟨e, h4, h5⟩
                · exact Or.inl h4
                · exact Or.inr ⟨e, h4, fun x' y' g1 g2 => h5 x' y' (by omega) g2⟩
              · intro y hy ih2 τ x1 hX h1 h4
                have hCτ : mR τ K W tb := hC.kept hX (fun _ _ => by omega) (fun _ => by omega)
                have e64 : (64 : Int32) * nI x + nI y = nI (64 * x + y) := by
                  show nI 64 * _ + _ = _
                  rw [pk_mul, nI_add]
                have skip : (x ≠ y → (∃ a b, go2 K W tb a b x y ∧ (a = b ∨ mk9 τ a b)) → mk9 τ x y) → G_M_losesSomewhere_105 l v (n + 1) post τ x1 (nI x) (nI y) := fun hsk => T_M_losesSomewhere_105 (by
                  rw [nI_1]
                  refine ih2 τ x1 hX h1 ?_
                  rcases h4 with h4 | ⟨e, h4, h5⟩
                  · exact Or.inl h4
                  · refine Or.inr ⟨e, h4, fun x' y' g1 g2 g3 g4 => ?_⟩
                    by_cases q : x' = x ∧ y' = y
                    · obtain ⟨q1, q2⟩ := q
                      subst q1 q2
                      exact hsk g3 g4
                    · exact h5 x' y' (by omega) g2 g3 g4)
                refine T_M_losesSomewhere_42 (br_f (by rw [(hX 0 4 (by omega)).1, hC.2.2.1]; exact nI_ge hy (by omega)) ?_)
                rw [e64, nI_clamp (by omega)]
                refine ⟨fun h => skip (fun q => absurd ((nI_nat (by omega) (by omega)).mp h) q), fun h => ⟨vp_in_nI (by omega) (by decide), fun h2 => skip (fun _ _ => h2), fun h2 => ?_⟩⟩
                have hne : x ≠ y := fun q => h (by rw [q])
                refine k_comesFrom hR hCτ hx hy (fun hcf => br_f (by decide) ⟨vp_in_nI (by omega) (by decide), ?_⟩) (fun hcf => br_t rfl (skip (fun _ q => absurd q hcf)))
                have hX2 : sX (fun k _ => k = 19) σ (gs_pI τ 19 (64 * x + y) 1) := hX.I rfl
                have hMr : Mr K W tb x y := by
                  obtain ⟨a, b, g1, g2⟩ := hcf
                  rcases g2 with g2 | g2
                  · subst g2; exact Mr.part g1 hne
                  · exact Mr.on (h1 a b (go2_lt hR g1).1 (go2_lt hR g1).2.1 g2).1 g1 hne
                refine k_leadsOn (z := 0) hR (hC.kept hX2 (fun _ _ => by omega) (fun _ => by omega)) hx hy (fun hl => br_f (by decide) ?_) (fun hl => br_t rfl (T_M_losesSomewhere_105 ?_))
                · obtain ⟨x', y', g1, g2⟩ := hl
                  have g2 : x' = y' := g2.elim id (fun q => absurd rfl q.1)
                  subst g2
                  exact (hp _ hX2).1 (dD_of_Mr hMr ⟨_, g1⟩)
                · rw [nI_1]
                  refine ih2 _ 1 hX2 (fun x' y' hx' hy' hm => ?_) (Or.inl ⟨rfl, ?_⟩)
                  · by_cases q : 64 * x' + y' = 64 * x + y
                    · have e1 : x' = x := by omega
                      have e2 : y' = y := by omega
                      subst e1 e2
                      exact ⟨hMr, fun ⟨z, hz⟩ => hl ⟨z, z, hz, Or.inl rfl⟩⟩
                    · refine h1 x' y' hx' hy' (fun h0 => hm ?_)
                      rw [pI_j q]; exact h0
                  · have hlt : cn19 τ < cn19 (gs_pI τ 19 (64 * x + y) 1) := by
                      refine cq_lt 4096 (fun i hi hb => ?_) ⟨64 * x + y, by omega, decide_eq_false (fun q => q h2), decide_eq_true ?_⟩
                      · have hb := of_decide_eq_true hb
                        refine decide_eq_true ?_
                        by_cases q : i = 64 * x + y
                        · rw [q, pI_eq]; decide
                        · rw [pI_j q]; exact hb
                      · rw [pI_eq]; decide
                    rcases h4 with ⟨_, h4⟩ | ⟨_, h4, _⟩ <;> omega
            refine L42 0 (Nat.zero_le _) τ x1 hX h1 ?_
            rcases h4 with h4 | ⟨e, h4, h5⟩
            · exact Or.inl h4
            · exact Or.inr ⟨e, h4, fun x' y' g1 g2 => h5 x' y' (by omega) g2⟩
        exact L32 0 (Nat.zero_le _) τ 0 hX h1 (Or.inr ⟨rfl, hc, fun x' y' h => absurd h (Nat.not_lt_zero x')⟩)
      · subst e
        exact T_M_losesSomewhere_24 (br_t rfl (no τ hX h1 h4))
  have L2 : ∀ p, p ≤ 4096 → ∀ τ, sX (fun k _ => k = 19) σ τ → (∀ q, q < p → τ.1 19 q = 0) → G_M_losesSomewhere_2 l v (n + 1) post τ (nI p) := by
    refine dn ?_ ?_
    · intro τ hX h1
      refine T_M_losesSomewhere_2 (br_t (show (4096 : Int32) ≤ nI 4096 by decide) ?_)
      exact L24 4096 τ 1 hX (by omega) (fun x y hx hy hm => absurd (h1 _ (by omega)) hm) (Or.inl rfl)
    · intro p hp' ih τ hX h1
      refine T_M_losesSomewhere_2 (br_f (nI_ge (a := p) (b := 4096) hp' (by omega)) ⟨vp_in_nI (by omega) (by decide), ?_⟩)
      rw [nI_clamp (by omega), nI_1]
      refine ih _ (hX.I rfl) (fun q hq => ?_)
      by_cases e : q = p
      · rw [e, pI_eq]
      · rw [pI_j e]; exact h1 q (by omega)
  exact E_M_losesSomewhere (T_M_losesSomewhere_0 (L2 0 (Nat.zero_le _) σ sX.rf (fun q h => absurd h (Nat.not_lt_zero q))))
end K16
