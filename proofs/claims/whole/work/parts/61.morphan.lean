/-! The reference's orphan; orphan and orphanAt with a rule. -/
section K20
variable {l : Launch} {v : gs_V} {n : Nat} {σ : gs_S} {K W : Nat} {tb : Nat → Nat}
theorem k_M_behind {post : Int64 → gs_S → Prop} {X : Int64} {s : Nat} (hR : okR K W tb) (hC : mR σ K W tb) (hs : s < K) (hp : post (nX K W tb X s) σ) : gM l v lyM 33 me_M_behind (n + 1) [.ref (v.2.2 0), .long X, .int (nI s)] σ (qL v lyM 33 post) := by
  have hN := pw_le1 hR.2.1 hR.2.2.2.1
  have hNp := pw_pos (W := W - 1) hR.1
  have hKW := pw_le hR.2.1 hR.2.2.2.1
  have hK := hR.2.1
  have hK2 := hR.1
  have L6 : ∀ x, x ≤ K ^ (W - 1) → ∀ acc : Int64, (∀ y, y < 64 → (bt acc y = true ↔ ∃ u, u < K ^ W ∧ u / K < x ∧ bt X (u / K) = true ∧ tb u = s ∧ u % K ^ (W - 1) = y)) → G_M_behind_6 l v n post σ X (nI s) acc (nI x) := by
    refine dn ?_ ?_
    · intro acc hI
      refine T_M_behind_6 (br_t (by rw [hC.2.2.1]; exact nI_le (Nat.le_refl _) (by omega)) ?_)
      have e : acc = nX K W tb X s := bt_ext (fun y hy => by
        rw [Bool.eq_iff_iff, hI y hy, nX_bit hR hy]
        constructor
        · rintro ⟨u, h1, _, h2⟩; exact ⟨u, h1, h2⟩
        · rintro ⟨u, h1, h2⟩; exact ⟨u, h1, div_lt' hR h1, h2⟩)
      rw [e]; exact hp
    · intro x hx ih acc hI
      refine T_M_behind_6 (br_f (by rw [hC.2.2.1]; exact nI_ge hx (by omega)) ?_)
      have L18 : ∀ c, c ≤ K → ∀ acc : Int64, (∀ y, y < 64 → (bt acc y = true ↔ ∃ u, u < K ^ W ∧ (u / K < x ∨ (u / K = x ∧ u < x * K + c)) ∧ bt X (u / K) = true ∧ tb u = s ∧ u % K ^ (W - 1) = y)) → G_M_behind_18 l v n post σ X (nI s) acc (nI x) (nI c) := by
        have out : ∀ acc : Int64, (∀ y, y < 64 → (bt acc y = true ↔ ∃ u, u < K ^ W ∧ u / K < x + 1 ∧ bt X (u / K) = true ∧ tb u = s ∧ u % K ^ (W - 1) = y)) → G_M_behind_85 l v n post σ X (nI s) acc (nI x) := fun acc h => T_M_behind_85 (by rw [nI_1]; exact ih acc h)
        refine dn ?_ ?_
        · intro acc hI
          refine T_M_behind_18 (br_t (by rw [hC.1]; exact nI_le (Nat.le_refl _) (by omega)) (out acc (fun y hy => ?_)))
          rw [hI y hy]
          constructor
          · rintro ⟨u, h1, h2, h3⟩; exact ⟨u, h1, by omega, h3⟩
          · rintro ⟨u, h1, h2, h3⟩
            refine ⟨u, h1, ?_, h3⟩
            by_cases q : u / K = x
            · obtain ⟨c, hc, e⟩ := win_out' hR q
              exact Or.inr ⟨q, by omega⟩
            · exact Or.inl (by omega)
        · intro c hc ih2 acc hI
          have hu := win_out hR hx hc
          have ht := hR.2.2.2.2 _ hu.1
          have hm : (x * K + c) % K ^ (W - 1) < K ^ (W - 1) := Nat.mod_lt _ hNp
          refine T_M_behind_18 (br_f (by rw [hC.1]; exact nI_ge hc (by omega)) ?_)
          rw [(jA_bit X (show x < 64 by omega)).1, hC.1, pk_mul, nI_add, nI_clamp (n := x * K + c) (by omega), hC.2.2.2.2 _ hu.1, hC.2.2.1, jR_n (by omega) hNp (by omega), nI_nat (by omega) (by omega)]
          refine ⟨fun h => out acc (fun y hy => ?_), fun h => ⟨vp_in_nI (by omega) (by decide), fun h2 => T_M_behind_79 ?_, fun h2 => ⟨nI_ne0 hNp (by omega), T_M_behind_79 ?_⟩⟩⟩
          · rw [hI y hy]
            constructor
            · rintro ⟨u, h1, h2, h3⟩; exact ⟨u, h1, by omega, h3⟩
            · rintro ⟨u, h1, h2, h3, h4⟩
              refine ⟨u, h1, ?_, h3, h4⟩
              by_cases q : u / K = x
              · rw [q] at h3; exact absurd h3 h
              · exact Or.inl (by omega)
          · rw [nI_1]
            refine ih2 acc (fun y hy => ?_)
            rw [hI y hy]
            constructor
            · rintro ⟨u, h1, h2, h3⟩; exact ⟨u, h1, by omega, h3⟩
            · rintro ⟨u, h1, q, h3, h4, h5⟩
              refine ⟨u, h1, ?_, h3, h4, h5⟩
              by_cases e : u = x * K + c
              · rw [e] at h4; exact absurd h4 h2
              · omega
          · rw [nI_1]
            refine ih2 _ (fun y hy => ?_)
            rw [bt_or, Bool.or_eq_true, bt_one _ (by omega) y hy, decide_eq_true_eq, hI y hy]
            constructor
            · rintro (⟨u, h1, q, h3⟩ | e)
              · exact ⟨u, h1, by omega, h3⟩
              · exact ⟨x * K + c, hu.1, Or.inr ⟨hu.2, by omega⟩, by rw [hu.2]; exact h, h2, e.symm⟩
            · rintro ⟨u, h1, q, h3, h4, h5⟩
              by_cases e : u = x * K + c
              · rw [e] at h5; exact Or.inr h5.symm
              · exact Or.inl ⟨u, h1, by omega, h3, h4, h5⟩
      refine L18 0 (Nat.zero_le _) acc (fun y hy => ?_)
      rw [hI y hy]
      constructor
      · rintro ⟨u, h1, h2, h3⟩; exact ⟨u, h1, Or.inl h2, h3⟩
      · rintro ⟨u, h1, q, h3⟩
        refine ⟨u, h1, ?_, h3⟩
        rcases q with q | ⟨q, q2⟩
        · exact q
        · obtain ⟨c, hc, e⟩ := win_out' hR q
          omega
  refine E_M_behind (T_M_behind_0 (L6 0 (Nat.zero_le _) 0 (fun y hy => ?_)))
  rw [bt_0]
  exact ⟨fun h => (by cases h), fun ⟨u, _, h, _⟩ => absurd h (Nat.not_lt_zero _)⟩
theorem k_spell {post : gs_S → Prop} {fr by' : Nat → Nat} {m i s : Nat} (hm : m < 500) (hi : i < m) (hf : ∀ j, 0 < j → j < m → fr j < j) (e3 : ∀ j, 0 < j → j < m → σ.1 27 j = nI (fr j)) (e4 : ∀ j, 0 < j → j < m → σ.1 28 j = nI (by' j)) (hp : ∀ σ', sX (fun k j => k = 25 ∨ (k = 0 ∧ j = 42)) σ σ' → wr fr by' i s (σ'.1 0 42) (σ'.1 25) → post σ') : gM l v lyM 33 me_M_spell (n + 1) [.ref (v.2.2 0), .int (nI i), .int (nI s)] σ (qV v lyM 33 post) := by
  have hcl : ∀ k, (∀ k', k' < k → 0 < ch fr k' i) → ch fr k i + k ≤ i := fun k hk => ch_le (fun j h1 h2 => hf j h1 (by omega)) k hk
  have second : ∀ d, d ≤ i → ch fr d i = 0 → (∀ k, k < d → 0 < ch fr k i) → vp_in (nI (d + 1) - 1) 512 ∧ G_M_spell_47 l v n post (gs_pI (gs_pI σ 0 42 (nI (d + 1))) 25 ((nI (d + 1) - 1).toNatClampNeg) (nI s)) (nI i) (nI (d + 1) - 2) := by
    intro d hd hd0 hdk
    rw [show nI (d + 1) - 1 = nI d from pk_sub (a := d + 1) (b := 1) (by omega), nI_clamp (by omega)]
    refine ⟨vp_in_nI (by omega) (by decide), ?_⟩
    have L : ∀ r, r ≤ d → ∀ τ, sX (fun k j => k = 25 ∨ (k = 0 ∧ j = 42)) σ τ → τ.1 0 42 = nI (d + 1) → τ.1 25 d = nI s → (∀ k, k < d - r → τ.1 25 (d - 1 - k) = nI (by' (ch fr k i))) → G_M_spell_47 l v n post τ (nI (ch fr (d - r) i)) (nI r - 1) := by
      intro r
      induction r with
      | zero =>
        intro _ τ hX h0 h1 h2
        exact T_M_spell_47 (br_t (by decide) (hp τ hX ⟨d, hd, hd0, hdk, h0, h1, fun k hk => h2 k (by omega)⟩))
      | succ r ih =>
        intro hr τ hX h0 h1 h2
        have hpos := hdk (d - (r + 1)) (by omega)
        have hle := hcl (d - (r + 1)) (fun k' hk' => hdk k' (by omega))
        rw [nI_pred r]
        refine T_M_spell_47 (br_f (nI_pos (by omega)) ?_)
        rw [nI_clamp (n := ch fr (d - (r + 1)) i) (by omega), nI_clamp (n := r) (by omega), (hX 28 _ (by omega)).1, (hX 27 _ (by omega)).1, e3 _ hpos (by omega), e4 _ hpos (by omega), show nI r + (-1) = nI r - 1 from (Int32.sub_eq_add_neg _ _).symm]
        refine ⟨vp_in_nI (by omega) (by decide), vp_in_nI (by omega) (by decide), vp_in_nI (by omega) (by decide), ?_⟩
        have q := ih (by omega) (gs_pI τ 25 r (nI (by' (ch fr (d - (r + 1)) i)))) (hX.I (Or.inl rfl)) (by rw [pI_k (by decide)]; exact h0) (by rw [pI_j (by omega)]; exact h1) (fun k hk => by
          by_cases e : k = d - (r + 1)
          · rw [e, show d - 1 - (d - (r + 1)) = r by omega, pI_eq]
          · rw [pI_j (by omega)]; exact h2 k (by omega))
        rw [show d - r = (d - (r + 1)) + 1 by omega] at q
        exact q
    have q := L d (Nat.le_refl _) (gs_pI (gs_pI σ 0 42 (nI (d + 1))) 25 d (nI s)) ((sX.rf.I (Or.inr ⟨rfl, rfl⟩)).I (Or.inl rfl)) (by rw [pI_k (by decide), pI_eq]) pI_eq (fun k hk => absurd hk (by omega))
    rw [Nat.sub_self] at q
    have e2 : nI (d + 1) - 2 = nI d - 1 := by
      rcases Nat.eq_zero_or_pos d with z | z
      · subst z; decide
      · rw [show nI (d + 1) - 2 = nI (d + 1 - 2) from pk_sub (a := d + 1) (b := 2) (by omega), show nI d - 1 = nI (d - 1) from pk_sub (a := d) (b := 1) (by omega)]
        congr 1
    rw [e2]
    exact q
  have first : ∀ c k, ch fr k i = c → (∀ k', k' < k → 0 < ch fr k' i) → G_M_spell_5 l v n post σ (nI i) (nI s) (nI (k + 1)) (nI c) := by
    intro c
    induction c using Nat.strongRecOn with
    | _ c ih =>
      intro k hk hpos
      have hle := hcl k hpos
      rcases Nat.eq_zero_or_pos c with z | z
      · subst z
        exact T_M_spell_5 (br_t (by decide) (second k (by omega) hk hpos))
      · refine T_M_spell_5 (br_f (nI_ge (a := 0) (b := c) z (by omega)) ⟨vp_in_nI (by omega) (by decide), ?_⟩)
        rw [nI_clamp (by omega), e3 c z (by omega), nI_1]
        exact ih (fr c) (hf c z (by omega)) (k + 1) (by show fr (ch fr k i) = _; rw [hk]) (fun k' hk' => by
          by_cases e : k' = k
          · rw [e, hk]; exact z
          · exact hpos k' (by omega))
  exact E_M_spell (T_M_spell_0 (first i 0 rfl (fun k' h => absurd h (Nat.not_lt_zero k'))))
def mO (τ : gs_S) (K W : Nat) (tb : Nat → Nat) (t : Nat) : Prop := qM K W tb t < 500 ∧ (∀ j, j < qM K W tb t → τ.2.1 26 j = qS K W tb t j) ∧ (∀ j, 0 < j → j < qM K W tb t → τ.1 27 j = nI (qF K W tb t j) ∧ τ.1 28 j = nI (qB K W tb t j)) ∧ ∀ t', t' < t → cont K W tb t'
def mOr (σ : gs_S) (K W : Nat) (tb : Nat → Nat) : Prop := σ.1 0 41 = 0 ∨ (σ.1 0 41 = 1 ∧ oS K W tb (σ.1 0 42) (σ.1 25))
def fMo (σ σ' : gs_S) : Prop := sX (fun k j => k = 19 ∨ (k = 0 ∧ (j = 28 ∨ j = 41 ∨ j = 42)) ∨ (25 ≤ k ∧ k ≤ 28)) σ σ'
theorem k_findOrphan {post : gs_S → Prop} (hR : okR K W tb) (hC : mR σ K W tb) (hc : mSj σ K W tb) (ho : mOr σ K W tb) (hp : ∀ σ', fMo σ σ' → mSj σ' K W tb → σ'.1 0 41 = 1 → oS K W tb (σ'.1 0 42) (σ'.1 25) → post σ') : gM l v lyM 33 me_M_findOrphan (n + 4) [.ref (v.2.2 0)] σ (qV v lyM 33 post) := by
  have hN := pw_le1 hR.2.1 hR.2.2.2.1
  have hNp := pw_pos (W := W - 1) hR.1
  have hK := hR.2.1
  have hK2 := hR.1
  refine E_M_findOrphan (T_M_findOrphan_0 ?_)
  rcases ho with h0 | ⟨h1, h2⟩
  · refine br_t h0 ?_
    have hX0 : fMo σ (gs_pI (gs_pI σ 0 41 1) 0 42 0) := (sX.rf.I (by omega)).I (by omega)
    refine k_M_surjective hR (hC.kept hX0 (fun _ _ => by omega) (fun _ => by omega)) (by unfold mSj; rw [pI_j (by decide), pI_j (by decide)]; exact hc) (fun τ0 hX hS => ?_)
    have hX1 : fMo σ τ0 := hX0.tr (hX.mono (fun k j h => by omega))
    have e41 : τ0.1 0 41 = 1 := by rw [(hX 0 41 (by omega)).1, pI_j (by decide), pI_eq]
    have e42 : τ0.1 0 42 = 0 := by rw [(hX 0 42 (by omega)).1, pI_eq]
    refine ⟨fun hs => br_f' rfl (hp τ0 hX1 hS e41 (Or.inl ⟨hs, e42⟩)), fun hs => br_t' (by decide) ?_⟩
    have hDD : dD K W tb := Classical.not_not.mp hs
    have keep : ∀ τ, sX (fun k j => (k = 0 ∧ j = 42) ∨ (25 ≤ k ∧ k ≤ 28)) τ0 τ → fMo σ τ ∧ mSj τ K W tb ∧ τ.1 0 41 = 1 := fun τ h => ⟨hX1.tr (h.mono (fun k j h => by omega)), by unfold mSj; rw [(h 0 28 (by omega)).1]; exact hS, (h 0 41 (by omega)).1.trans e41⟩
    have L60 : ∀ g i, i + g = 500 → ∀ τ, sX (fun k j => (k = 0 ∧ j = 42) ∨ (25 ≤ k ∧ k ≤ 28)) τ0 τ → mO τ K W tb (i * K) → G_M_findOrphan_60 l v (n + 3) post τ (nI (qM K W tb (i * K))) (nI i) := by
      intro g
      induction g with
      | zero =>
        intro i hi τ hX hO
        exfalso
        refine no_close hR hDD hO.2.2.2 ?_
        rw [Nat.mul_div_cancel _ (by omega)]
        have := hO.1
        omega
      | succ g ih =>
        intro i hi τ hX hO
        have hdv : i * K / K = i := Nat.mul_div_cancel _ (by omega)
        by_cases hcl : i < qM K W tb (i * K)
        · have hlt := hO.1
          refine T_M_findOrphan_60 (br_f (nI_ge hcl (by omega)) ?_)
          have L67 : ∀ s, s ≤ K → ∀ τ, sX (fun k j => (k = 0 ∧ j = 42) ∨ (25 ≤ k ∧ k ≤ 28)) τ0 τ → mO τ K W tb (i * K + s) → G_M_findOrphan_67 l v (n + 3) post τ (nI (qM K W tb (i * K + s))) (nI i) (nI s) := by
            refine dn ?_ ?_
            · intro τ hX hO
              have hCτ : mR τ K W tb := hC.kept (keep τ hX).1 (fun _ _ => by omega) (fun _ => by omega)
              refine T_M_findOrphan_67 (br_t (by rw [hCτ.1]; exact nI_le (Nat.le_refl _) (by omega)) ?_)
              rw [nI_1]
              have q := ih (i + 1) (by omega) τ hX (by rw [Nat.succ_mul]; exact hO)
              rw [Nat.succ_mul] at q
              exact q
            · intro s hs' ih2 τ hX hO
              have hCτ : mR τ K W tb := hC.kept (keep τ hX).1 (fun _ _ => by omega) (fun _ => by omega)
              have hlt2 := hO.1
              have ed : (i * K + s) / K = i := by rw [Nat.mul_comm, Nat.mul_add_div (by omega), Nat.div_eq_of_lt hs', Nat.add_zero]
              have emd : (i * K + s) % K = s := by rw [Nat.mul_comm, Nat.mul_add_mod, Nat.mod_eq_of_lt hs']
              have hl := q_later (K := K) (W := W) (tb := tb) (i * K) s
              refine T_M_findOrphan_67 (br_f (by rw [hCτ.1]; exact nI_ge hs' (by omega)) ⟨vp_in_nI (by omega) (by decide), k_M_behind hR hCτ hs' ?_⟩)
              rw [nI_clamp (by omega), hO.2.1 i (by omega)]
              have eX : nX K W tb (qS K W tb (i * K + s) i) s = qX K W tb (i * K + s) := by
                unfold qX
                rw [ed, emd]
              rw [eX]
              refine ⟨fun hz => ?_, fun hz => ?_⟩
              · have fin : ∀ τ2, sX (fun k j => (k = 0 ∧ j = 42) ∨ (25 ≤ k ∧ k ≤ 28)) τ0 τ2 → qM K W tb (i * K + s + 1) ≤ 500 → (∀ j, j < qM K W tb (i * K + s + 1) → τ2.2.1 26 j = qS K W tb (i * K + s + 1) j) → (∀ j, 0 < j → j < qM K W tb (i * K + s + 1) → τ2.1 27 j = nI (qF K W tb (i * K + s + 1) j) ∧ τ2.1 28 j = nI (qB K W tb (i * K + s + 1) j)) → G_M_findOrphan_175 l v (n + 3) post τ2 (nI (qM K W tb (i * K + s + 1))) (nI i) (nI s) := by
                  intro τ2 hX2 g2 g3 g4
                  refine T_M_findOrphan_175 ⟨fun h5 => ?_, fun h5 => ?_⟩
                  · have h5 : qM K W tb (i * K + s + 1) ≠ 500 := fun q => h5 (by rw [q]; rfl)
                    rw [nI_1]
                    refine ih2 τ2 hX2 ⟨(show qM K W tb (i * K + s + 1) < 500 by omega), g3, g4, fun t' ht' => ?_⟩
                    by_cases e : t' = i * K + s
                    · rw [e]; exact ⟨by rw [ed]; omega, hz, by omega⟩
                    · exact hO.2.2.2 t' (by omega)
                  · have h5 : qM K W tb (i * K + s + 1) = 500 := (nI_nat (b := 500) (by omega) (by omega)).mp h5
                    have hX3 := hX2.I (k := 0) (j := 42) (x := -2) (Or.inl ⟨rfl, rfl⟩)
                    obtain ⟨k1, k2, k3⟩ := keep _ hX3
                    refine hp _ k1 k2 k3 (Or.inr ⟨hs, i * K + s, by rw [ed]; omega, ⟨hO.2.2.2, fun q => ?_⟩, Or.inl ⟨hz, pI_eq⟩⟩)
                    have := q.2.2
                    omega
                have L108 : ∀ j, j ≤ qM K W tb (i * K + s) → ∀ x6 : Int32, ((x6 = 1 ∧ ∃ j', j' < qM K W tb (i * K + s) ∧ qS K W tb (i * K + s) j' = qX K W tb (i * K + s)) ∨ (x6 = 0 ∧ ∀ j', j' < j → ¬ qS K W tb (i * K + s) j' = qX K W tb (i * K + s))) → G_M_findOrphan_108 l v (n + 3) post τ (nI (qM K W tb (i * K + s))) (nI i) (nI s) (qX K W tb (i * K + s)) x6 (nI j) := by
                  refine dn ?_ ?_
                  · intro x6 h6
                    refine T_M_findOrphan_108 (br_t (nI_le (Nat.le_refl _) (by omega)) ?_)
                    rcases h6 with ⟨e6, h6⟩ | ⟨e6, h6⟩
                    · subst e6
                      refine br_t' (by decide) ?_
                      have e := q_old (t := i * K + s) ((mtb_iff _).mpr h6)
                      have eM : qM K W tb (i * K + s + 1) = qM K W tb (i * K + s) := by unfold qM; rw [e]
                      have eS : qS K W tb (i * K + s + 1) = qS K W tb (i * K + s) := by unfold qS; rw [e]
                      have eF : qF K W tb (i * K + s + 1) = qF K W tb (i * K + s) := by unfold qF; rw [e]
                      have eB : qB K W tb (i * K + s + 1) = qB K W tb (i * K + s) := by unfold qB; rw [e]
                      have q := fin τ hX (by rw [eM]; omega) (by rw [eM, eS]; exact hO.2.1) (by rw [eM, eF, eB]; exact hO.2.2.1)
                      rw [eM] at q
                      exact q
                    · subst e6
                      refine br_f' rfl ?_
                      have hmt : ¬ mtb (qS K W tb (i * K + s)) (qX K W tb (i * K + s)) (qM K W tb (i * K + s)) = true := fun q => by
                        obtain ⟨j, a, b⟩ := (mtb_iff _).mp q
                        exact h6 j a b
                      have e := q_new (t := i * K + s) hmt
                      have eM : qM K W tb (i * K + s + 1) = qM K W tb (i * K + s) + 1 := by
                        show (bq K W tb (i * K + s + 1)).1 = _
                        rw [e]
                      have eS : ∀ j, qS K W tb (i * K + s + 1) j = if j = qM K W tb (i * K + s) then qX K W tb (i * K + s) else qS K W tb (i * K + s) j := fun j => by
                        show (bq K W tb (i * K + s + 1)).2.1 j = _
                        rw [e]
                      have eF : ∀ j, qF K W tb (i * K + s + 1) j = if j = qM K W tb (i * K + s) then i else qF K W tb (i * K + s) j := fun j => by
                        show (bq K W tb (i * K + s + 1)).2.2.1 j = _
                        rw [e, ed]
                      have eB : ∀ j, qB K W tb (i * K + s + 1) j = if j = qM K W tb (i * K + s) then s else qB K W tb (i * K + s) j := fun j => by
                        show (bq K W tb (i * K + s + 1)).2.2.2 j = _
                        rw [e, emd]
                      rw [nI_clamp (by omega), nI_1, ← eM]
                      refine ⟨vp_in_nI (by omega) (by decide), vp_in_nI (by omega) (by decide), vp_in_nI (by omega) (by decide), fin _ (((hX.L (by omega)).I (by omega)).I (by omega)) (by omega) (fun j hj => ?_) (fun j h0 hj => ?_)⟩
                      · rw [eS, pI_2, pI_2, pL_row]
                        show (if j = qM K W tb (i * K + s) then qX K W tb (i * K + s) else τ.2.1 26 j) = _
                        by_cases q : j = qM K W tb (i * K + s)
                        · rw [if_pos q, if_pos q]
                        · rw [if_neg q, if_neg q]; exact hO.2.1 j (by omega)
                      · rw [eF, eB, pI_k (by decide)]
                        by_cases q : j = qM K W tb (i * K + s)
                        · rw [if_pos q, if_pos q, q, pI_eq, pI_eq]
                          exact ⟨rfl, rfl⟩
                        · rw [if_neg q, if_neg q, pI_j q, pI_j q, pI_k (by decide)]
                          exact hO.2.2.1 j h0 (by omega)
                  · intro j hj ih3 x6 h6
                    refine T_M_findOrphan_108 (br_f (nI_ge hj (by omega)) ?_)
                    rw [nI_clamp (by omega), hO.2.1 j hj]
                    rcases h6 with ⟨e6, h6⟩ | ⟨e6, h6⟩
                    · subst e6
                      exact br_t' (by decide) (T_M_findOrphan_132 (T_M_findOrphan_137 (by rw [nI_1]; exact ih3 1 (Or.inl ⟨rfl, h6⟩))))
                    · subst e6
                      refine br_f' rfl ⟨vp_in_nI (by omega) (by decide), fun q => T_M_findOrphan_137 ?_, fun q => T_M_findOrphan_132 (T_M_findOrphan_137 ?_)⟩
                      · rw [nI_1]
                        refine ih3 0 (Or.inr ⟨rfl, fun j' hj' => ?_⟩)
                        by_cases e : j' = j
                        · rw [e]; exact q
                        · exact h6 j' (by omega)
                      · rw [nI_1]; exact ih3 1 (Or.inl ⟨rfl, j, hj, q⟩)
                exact L108 0 (Nat.zero_le _) 0 (Or.inr ⟨rfl, fun j' h => absurd h (Nat.not_lt_zero j')⟩)
              · refine k_spell (fr := qF K W tb (i * K + s)) (by' := qB K W tb (i * K + s)) (i := i) (s := s) hlt2 (by omega) (fun j h1 h2 => (q_lt hR _ hO.2.2.2 j h1 h2).1) (fun j h1 h2 => (hO.2.2.1 j h1 h2).1) (fun j h1 h2 => (hO.2.2.1 j h1 h2).2) (fun τ2 hX2 hw => ?_)
                obtain ⟨k1, k2, k3⟩ := keep τ2 (hX.tr (hX2.mono (fun k j h => by omega)))
                refine hp τ2 k1 k2 k3 (Or.inr ⟨hs, i * K + s, by rw [ed]; omega, ⟨hO.2.2.2, fun q => q.2.1 hz⟩, Or.inr ⟨hz, ?_⟩⟩)
                rw [ed, emd]; exact hw
          have q := L67 0 (Nat.zero_le _) τ hX (by rw [Nat.add_zero]; exact hO)
          rw [Nat.add_zero] at q
          exact q
        · exfalso
          refine no_close hR hDD hO.2.2.2 ?_
          rw [hdv]; exact hcl
    have start : ∀ X, X = aS (K ^ (W - 1)) → G_M_findOrphan_55 l v (n + 3) post τ0 X 0 := by
      intro X hX'
      refine T_M_findOrphan_55 ⟨vp_in_nI (n := 0) (by decide) (by decide), ?_⟩
      have e1 : qM K W tb 0 = 1 := rfl
      have q := L60 500 0 (by decide) (gs_pL τ0 26 0 X) (sX.rf.L (by omega)) (by
        rw [Nat.zero_mul]
        refine ⟨by rw [e1]; decide, fun j hj => ?_, fun j h0 hj => by omega, fun t' h => absurd h (Nat.not_lt_zero t')⟩
        have ej : j = 0 := by omega
        rw [ej, pL_eq, hX']
        rfl)
      rw [Nat.zero_mul, e1] at q
      exact q
    have hCτ : mR τ0 K W tb := hC.kept hX1 (fun _ _ => by omega) (fun _ => by omega)
    rw [hCτ.2.2.1]
    refine ⟨fun h => start _ ?_, fun h => start _ ?_⟩
    · unfold aS
      rw [if_neg (fun e => h (by rw [e]; rfl))]
    · unfold aS
      rw [if_pos ((nI_nat (b := 64) (by omega) (by omega)).mp h)]
  · exact br_f (by rw [h1]; decide) (hp σ sX.rf hc h1 h2)
end K20
section K21
variable {l : Launch} {v1 v2 : gs_V} {n : Nat} {σ1 σ2 : gs_S} {K W : Nat} {tb : Nat → Nat} {Post : gs_S → gs_S → Prop} {x : Int32}
theorem o_orphan (hp : ¬ σ1.1 4 5 = 0) (hR : okR K W tb) (hC : cR σ1 K W tb) (hF : cF σ1 K W tb) (hM : mR σ2 K W tb) (hc : cSj σ1 K W tb) (ho : cOr σ1 K W tb) (hm : mSj σ2 K W tb) (hmo : mOr σ2 K W tb) (hP : ∀ σ1' σ2', fO σ1 σ1' → cSj σ1' K W tb → σ1'.1 14 5 = σ1.1 14 5 → σ1'.1 14 6 = σ1.1 14 6 → cOr σ1' K W tb → fMo σ2 σ2' → mSj σ2' K W tb → mOr σ2' K W tb → Post σ1' σ2') : lOi l v1 v2 (n + 7) me_A_orphan me_M_orphan [] σ1 σ2 Post := by
  refine E_A_orphan (T_A_orphan_0 (br_f hp (E_O_length (T_O_length_0 (k_O_find hR hC hF hc ho (fun σ1' hX h1 h2 h3 h4 h5 => T_A_orphan_21 ?_))))))
  refine E_M_orphan (T_M_orphan_0 (br_t' (hM.k0 hR) (k_findOrphan hR hM hm hmo (fun σ2' hX2 g1 g2 g3 => ?_))))
  exact ⟨(oS_uniq h5 g3).1, hP _ _ hX h1 h2 h3 (Or.inr ⟨h4, h5⟩) hX2 g1 (Or.inr ⟨g2, g3⟩)⟩
theorem o_orphanAt (hp : ¬ σ1.1 4 5 = 0) (hR : okR K W tb) (hC : cR σ1 K W tb) (hF : cF σ1 K W tb) (hM : mR σ2 K W tb) (hc : cSj σ1 K W tb) (ho : cOr σ1 K W tb) (hm : mSj σ2 K W tb) (hmo : mOr σ2 K W tb) (hP : ∀ σ1' σ2', fO σ1 σ1' → cSj σ1' K W tb → σ1'.1 14 5 = σ1.1 14 5 → σ1'.1 14 6 = σ1.1 14 6 → cOr σ1' K W tb → fMo σ2 σ2' → mSj σ2' K W tb → mOr σ2' K W tb → Post σ1' σ2') : lOi l v1 v2 (n + 7) me_A_orphanAt me_M_orphanAt [.int x] σ1 σ2 Post := by
  refine E_A_orphanAt (T_A_orphanAt_0 (br_f hp (E_O_cell (T_O_cell_0 (k_O_find hR hC hF hc ho (fun σ1' hX h1 h2 h3 h4 h5 => ?_))))))
  have second : ∀ r, (∀ f', oS K W tb (σ1'.1 31 9) f' → (x < 0 → r = -1) ∧ (¬ x < 0 → (σ1'.1 31 9 ≤ x → r = -1) ∧ (¬ σ1'.1 31 9 ≤ x → vp_in x 512 ∧ r = f' x.toNatClampNeg))) → gM l v2 lyM 33 me_M_orphanAt (n + 7) [.ref (v2.2.2 0), .int x] σ2 (qI v2 lyM 33 (fun r' σ2' => r = r' ∧ Post σ1' σ2')) := by
    intro r hr
    refine E_M_orphanAt (T_M_orphanAt_0 (br_t' (hM.k0 hR) (k_findOrphan hR hM hm hmo (fun σ2' hX2 g1 g2 g3 => ?_))))
    have hPP := hP _ _ hX h1 h2 h3 (Or.inr ⟨h4, h5⟩) hX2 g1 (Or.inr ⟨g2, g3⟩)
    have ez := (oS_uniq h5 g3).1
    rw [← ez] at g3 ⊢
    have q := hr _ g3
    exact ⟨fun a => T_M_orphanAt_34 (T_M_orphanAt_35 ⟨q.1 a, hPP⟩), fun a => ⟨fun b => T_M_orphanAt_34 (T_M_orphanAt_35 ⟨(q.2 a).1 b, hPP⟩), fun b => ⟨((q.2 a).2 b).1, T_M_orphanAt_35 ⟨((q.2 a).2 b).2, hPP⟩⟩⟩⟩
  refine ⟨fun a => T_O_cell_16 (T_O_cell_26 (T_A_orphanAt_22 (second _ (fun f' _ => ⟨fun _ => rfl, fun q => absurd a q⟩)))), fun a => ⟨fun b => ?_, fun b => T_O_cell_16 (T_O_cell_26 (T_A_orphanAt_22 (second _ (fun f' _ => ⟨fun _ => rfl, fun _ => ⟨fun _ => rfl, fun q => absurd (Int32.not_lt.mp b) q⟩⟩))))⟩⟩
  rcases oS_rng h5 with (e | e) | ⟨d, hd1, hd2, e⟩
  · rw [e] at b; exact absurd b a
  · rw [e] at b
    exact absurd (Int32.lt_trans b (by decide)) a
  · rw [e] at b
    obtain ⟨i, hi, rfl⟩ := nI_of_range (c := d) a (Int32.not_le.mpr b) (by omega)
    refine ⟨vp_in_nI (by omega) (by decide), T_O_cell_26 (T_A_orphanAt_22 (second _ (fun f' hf' => ⟨fun q => absurd q a, fun _ => ⟨fun q => ?_, fun _ => ⟨vp_in_nI (by omega) (by decide), ?_⟩⟩⟩)))⟩
    · rw [e] at q; exact absurd b (Int32.not_lt.mpr q)
    · rw [nI_clamp (by omega)]
      exact (oS_uniq h5 hf').2 d e hd1 hd2 i hi
end K21
