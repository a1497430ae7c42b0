/-! waysFrom, findBefore of the reference; before, beforeAt, ways with a rule. -/
section K12
variable {l : Launch} {v : gs_V} {n : Nat} {σ : gs_S} {K W c b : Nat} {tb g : Nat → Nat}
theorem k_waysFrom {post : Int64 → gs_S → Prop} (hw : mW σ K W c tb g) (hb : b < K ^ (W - 1)) (hp : ∀ σ', sX (fun k _ => k = 30 ∨ k = 31) σ σ' → post (wy K W c tb g b c b) σ') : gM l v lyM 33 me_M_waysFrom (n + 2) [.ref (v.2.2 0), .int (nI b)] σ (qL v lyM 33 post) := by
  have hw0 := hw
  obtain ⟨hR, hC, hc1, hc2, ec, eg, hg⟩ := hw
  have hN := pw_le1 hR.2.1 hR.2.2.2.1
  have hNp := pw_pos (W := W - 1) hR.1
  have hKW := pw_le hR.2.1 hR.2.2.2.1
  have hK := hR.2.1
  have hK2 := hR.1
  have L34 : ∀ t, t ≤ c → ∀ τ, sX (fun k _ => k = 30 ∨ k = 31) σ τ → (∀ y, y < K ^ (W - 1) → τ.2.1 30 y = wy K W c tb g b t y) → G_M_waysFrom_34 l v (n + 1) post τ (nI b) (nI t) := by
    refine dn ?_ ?_
    · intro τ hX hI
      refine T_M_waysFrom_34 (br_t (by rw [(hX 0 7 (by omega)).1, ec]; exact nI_le (Nat.le_refl c) (by omega)) ⟨vp_in_nI (by omega) (by decide), ?_⟩)
      rw [nI_clamp (by omega), hI b hb]
      exact hp τ hX
    · intro t ht ih τ hX hI
      refine T_M_waysFrom_34 (br_f (by rw [(hX 0 7 (by omega)).1, ec]; exact nI_ge ht (by omega)) ?_)
      have L122 : ∀ i, i ≤ K ^ (W - 1) → ∀ τ, sX (fun k _ => k = 30 ∨ k = 31) σ τ → (∀ y, y < K ^ (W - 1) → τ.2.1 31 y = wy K W c tb g b (t + 1) y) → (∀ y, y < i → τ.2.1 30 y = wy K W c tb g b (t + 1) y) → G_M_waysFrom_122 l v (n + 1) post τ (nI b) (nI t) (nI i) := by
        refine dn ?_ ?_
        · intro τ hX h1 h2
          refine T_M_waysFrom_122 (br_t (by rw [(hX 0 4 (by omega)).1, hC.2.2.1]; exact nI_le (Nat.le_refl _) (by omega)) ?_)
          rw [nI_1]
          exact ih τ hX h2
        · intro i hi ih2 τ hX h1 h2
          refine T_M_waysFrom_122 (br_f (by rw [(hX 0 4 (by omega)).1, hC.2.2.1]; exact nI_ge hi (by omega)) ⟨vp_in_nI (by omega) (by decide), vp_in_nI (by omega) (by decide), ?_⟩)
          rw [nI_clamp (by omega), nI_1]
          refine ih2 _ (hX.L (Or.inl rfl)) (fun y hy => ?_) (fun y hy => ?_)
          · rw [pL_k (by decide)]; exact h1 y hy
          · rw [pL_row]
            show (if y = i then _ else τ.2.1 30 y) = _
            by_cases e : y = i
            · rw [if_pos e, e]; exact h1 i hi
            · rw [if_neg e]; exact h2 y (by omega)
      have L67 : ∀ w, w ≤ K ^ W → ∀ τ, sX (fun k _ => k = 30 ∨ k = 31) σ τ → (∀ y, y < K ^ (W - 1) → τ.2.1 30 y = wy K W c tb g b t y) → (∀ y, y < K ^ (W - 1) → τ.2.1 31 y = sm (fun u => if tb u = dd W c g t ∧ u % K ^ (W - 1) = y then wy K W c tb g b t (u / K) else 0) w) → G_M_waysFrom_67 l v (n + 1) post τ (nI b) (nI t) (nI w) := by
        refine dn ?_ ?_
        · intro τ hX h1 h2
          refine T_M_waysFrom_67 (br_t (by rw [(hX 0 5 (by omega)).1, hC.2.2.2.1]; exact nI_le (Nat.le_refl _) (by omega)) ?_)
          exact L122 0 (Nat.zero_le _) τ hX h2 (fun y hy => absurd hy (Nat.not_lt_zero y))
        · intro w hw' ih2 τ hX h1 h2
          have hwτ : mW τ K W c tb g := hw0.kept hX (fun _ _ => by omega) (fun _ _ _ _ => by omega)
          have hCτ := hwτ.2.1
          have hd := div_lt' hR hw'
          have hm : w % K ^ (W - 1) < K ^ (W - 1) := Nat.mod_lt _ hNp
          have ht1 := hR.2.2.2.2 w hw'
          have ht2 := dd_lt (W := W) hc1 hg t
          refine T_M_waysFrom_67 (br_f (by rw [(hX 0 5 (by omega)).1, hC.2.2.2.1]; exact nI_ge hw' (by omega)) ⟨vp_in_nI (by omega) (by decide), k_wanted hwτ (by omega) ?_⟩)
          rw [nI_clamp (by omega), hCτ.2.2.2.2 w hw', hCτ.2.2.1, hCτ.1, jR_n (by omega) (by omega) (by omega), pk_div (by omega) (by omega) (by omega), nI_clamp (n := w % K ^ (W - 1)) (by omega), nI_clamp (n := w / K) (by omega)]
          refine ⟨fun h => T_M_waysFrom_114 ?_, fun h => ⟨nI_ne0 hNp (by omega), vp_in_nI (by omega) (by decide), nI_ne0 (by omega) (by omega), vp_in_nI (by omega) (by decide), vp_in_nI (by omega) (by decide), T_M_waysFrom_114 ?_⟩⟩
          · have he : ¬ tb w = dd W c g t := fun q => h (by rw [q])
            rw [nI_1]
            refine ih2 τ hX h1 (fun y hy => ?_)
            show _ = sm _ w + (if tb w = dd W c g t ∧ w % K ^ (W - 1) = y then wy K W c tb g b t (w / K) else 0)
            rw [if_neg (fun z => he z.1), Int64.add_zero]
            exact h2 y hy
          · have he : tb w = dd W c g t := (nI_nat (by omega) (by omega)).mp h
            rw [nI_1]
            refine ih2 _ (hX.L (Or.inr rfl)) (fun y hy => ?_) (fun y hy => ?_)
            · rw [pL_k (by decide)]; exact h1 y hy
            · rw [pL_row]
              show (if y = w % K ^ (W - 1) then _ else τ.2.1 31 y) = sm _ w + (if tb w = dd W c g t ∧ w % K ^ (W - 1) = y then wy K W c tb g b t (w / K) else 0)
              by_cases hy2 : y = w % K ^ (W - 1)
              · rw [if_pos hy2, if_pos ⟨he, hy2.symm⟩, ← hy2, h2 y hy, h1 _ hd]
              · rw [if_neg hy2, if_neg (fun z => hy2 z.2.symm), h2 y hy, Int64.add_zero]
      have L44 : ∀ i, i ≤ K ^ (W - 1) → ∀ τ, sX (fun k _ => k = 30 ∨ k = 31) σ τ → (∀ y, y < K ^ (W - 1) → τ.2.1 30 y = wy K W c tb g b t y) → (∀ y, y < i → τ.2.1 31 y = 0) → G_M_waysFrom_44 l v (n + 1) post τ (nI b) (nI t) (nI i) := by
        refine dn ?_ ?_
        · intro τ hX h1 h2
          refine T_M_waysFrom_44 (br_t (by rw [(hX 0 4 (by omega)).1, hC.2.2.1]; exact nI_le (Nat.le_refl _) (by omega)) ?_)
          exact L67 0 (Nat.zero_le _) τ hX h1 h2
        · intro i hi ih2 τ hX h1 h2
          refine T_M_waysFrom_44 (br_f (by rw [(hX 0 4 (by omega)).1, hC.2.2.1]; exact nI_ge hi (by omega)) ⟨vp_in_nI (by omega) (by decide), ?_⟩)
          rw [nI_clamp (by omega), nI_1]
          refine ih2 _ (hX.L (Or.inr rfl)) (fun y hy => ?_) (fun y hy => ?_)
          · rw [pL_k (by decide)]; exact h1 y hy
          · rw [pL_row]
            show (if y = i then _ else τ.2.1 31 y) = _
            by_cases e : y = i
            · rw [if_pos e]
            · rw [if_neg e]; exact h2 y (by omega)
      exact L44 0 (Nat.zero_le _) τ hX hI (fun y hy => absurd hy (Nat.not_lt_zero y))
  have L2 : ∀ i, i ≤ K ^ (W - 1) → ∀ τ, sX (fun k _ => k = 30 ∨ k = 31) σ τ → (∀ y, y < i → τ.2.1 30 y = if y = b then 1 else 0) → G_M_waysFrom_2 l v (n + 1) post τ (nI b) (nI i) := by
    refine dn ?_ ?_
    · intro τ hX h1
      refine T_M_waysFrom_2 (br_t (by rw [(hX 0 4 (by omega)).1, hC.2.2.1]; exact nI_le (Nat.le_refl _) (by omega)) ?_)
      exact L34 0 (Nat.zero_le _) τ hX h1
    · intro i hi ih τ hX h1
      refine T_M_waysFrom_2 (br_f (by rw [(hX 0 4 (by omega)).1, hC.2.2.1]; exact nI_ge hi (by omega)) ?_)
      have go : ∀ x : Int64, (x = if i = b then 1 else 0) → G_M_waysFrom_25 l v (n + 1) post τ (nI b) (nI i) x (nI i) := fun x hx => by
        refine T_M_waysFrom_25 ⟨vp_in_nI (by omega) (by decide), ?_⟩
        rw [nI_clamp (by omega), nI_1]
        refine ih _ (hX.L (Or.inl rfl)) (fun y hy => ?_)
        rw [pL_row]
        show (if y = i then _ else τ.2.1 30 y) = _
        by_cases e : y = i
        · rw [if_pos e, hx, e]
        · rw [if_neg e]; exact h1 y (by omega)
      refine ⟨fun h => go 0 (by rw [if_neg (fun q => h (by rw [q]))]), fun h => go 1 (by rw [if_pos ((nI_nat (by omega) (by omega)).mp h)])⟩
  exact E_M_waysFrom (T_M_waysFrom_0 (L2 0 (Nat.zero_le _) σ sX.rf (fun y hy => absurd hy (Nat.not_lt_zero y))))
/-- what findBefore() leaves -/
def mF (σ : gs_S) (K W c : Nat) (tb g : Nat → Nat) : Prop := σ.2.1 0 49 = tot K W c tb g ∧ ((σ.1 0 48 = 1 ∧ ∃ b, bst K W c tb g b ∧ ∀ r, r < W - 1 + c → σ.1 29 r = nI (eE K W c tb g b r)) ∨ (σ.1 0 48 = 0 ∧ ¬ hB K W c tb g))
def mB (σ : gs_S) (K W c : Nat) (tb g : Nat → Nat) : Prop := σ.1 0 47 = 0 ∨ (σ.1 0 47 = 1 ∧ mF σ K W c tb g)
theorem k_findBefore {post : gs_S → Prop} (hw : mW σ K W c tb g) (hc : mB σ K W c tb g) (hp : ∀ σ', sX (fun k j => (k = 0 ∧ 47 ≤ j ∧ j ≤ 49) ∨ 29 ≤ k) σ σ' → σ'.1 0 47 = 1 → mF σ' K W c tb g → post σ') : gM l v lyM 33 me_M_findBefore (n + 3) [.ref (v.2.2 0)] σ (qV v lyM 33 post) := by
  have hw0 := hw
  obtain ⟨hR, hC, hc1, hc2, ec, eg, hg⟩ := hw
  have hN := pw_le1 hR.2.1 hR.2.2.2.1
  refine E_M_findBefore (T_M_findBefore_0 ?_)
  rcases hc with h0 | ⟨h1, hf⟩
  · refine br_t h0 ?_
    have loop : ∀ i, i ≤ K ^ (W - 1) → ∀ τ, sX (fun k j => (k = 0 ∧ 47 ≤ j ∧ j ≤ 49) ∨ 29 ≤ k) σ τ → τ.1 0 47 = 1 → τ.2.1 0 49 = sm (fun b => wy K W c tb g b c b) i → ((τ.1 0 48 = 1 ∧ ∃ b, bst K W c tb g b ∧ ∀ r, r < W - 1 + c → τ.1 29 r = nI (eE K W c tb g b r)) ∨ (τ.1 0 48 = 0 ∧ ∀ b', b' < i → ¬ bS K W c tb g b' c b')) → G_M_findBefore_25 l v (n + 2) post τ (nI i) := by
      refine dn ?_ ?_
      · intro τ hX h1 h2 h3
        refine T_M_findBefore_25 (br_t (by rw [(hX 0 4 (by omega)).1, hC.2.2.1]; exact nI_le (Nat.le_refl _) (by omega)) (hp τ hX h1 ⟨h2, ?_⟩))
        rcases h3 with h3 | ⟨h3, h4⟩
        · exact Or.inl h3
        · exact Or.inr ⟨h3, fun ⟨b, hb, hS⟩ => h4 b hb hS⟩
      · intro i hi ih τ hX h1 h2 h3
        have hwτ : mW τ K W c tb g := hw0.kept hX (fun _ _ => by omega) (fun _ _ _ _ => by omega)
        refine T_M_findBefore_25 (br_f (by rw [(hX 0 4 (by omega)).1, hC.2.2.1]; exact nI_ge hi (by omega)) (k_lookBack hwτ hi (fun τ1 hX1 ho => ?_)))
        have hX1' : sX (fun k j => (k = 0 ∧ 47 ≤ j ∧ j ≤ 49) ∨ 29 ≤ k) σ τ1 := hX.tr (hX1.mono (fun k j h => by omega))
        have hwτ1 : mW τ1 K W c tb g := hw0.kept hX1' (fun _ _ => by omega) (fun _ _ _ _ => by omega)
        have hbit := ho 0 (Nat.zero_le _) i (by omega)
        rw [Nat.sub_zero] at hbit
        rw [(jA_bit (τ1.2.1 32 0) (show i < 64 by omega)).1, hbit]
        refine ⟨fun hS => T_M_findBefore_84 ?_, fun hS => ?_⟩
        · rw [nI_1]
          refine ih τ1 hX1' ((hX1 0 47 (by omega)).1.trans h1) ?_ ?_
          · rw [(hX1 0 49 (by omega)).2.1, h2]
            show sm _ i = sm _ i + wy K W c tb g i c i
            rw [wy_no hS, Int64.add_zero]
          · rw [(hX1 0 48 (by omega)).1]
            rcases h3 with ⟨h3, b, hb, hl⟩ | ⟨h3, h4⟩
            · exact Or.inl ⟨h3, b, hb, fun r hr => (hX1 29 r (by omega)).1.trans (hl r hr)⟩
            · refine Or.inr ⟨h3, fun b' hb' => ?_⟩
              rcases Nat.lt_or_ge b' i with q | q
              · exact h4 b' q
              · rw [show b' = i by omega]; exact hS
        · have fin : ∀ τ2, sX (fun k j => (k = 0 ∧ 47 ≤ j ∧ j ≤ 49) ∨ 29 ≤ k) σ τ2 → τ2.1 0 47 = 1 → τ2.2.1 0 49 = sm (fun b => wy K W c tb g b c b) i → (∃ b, bst K W c tb g b ∧ ∀ r, r < W - 1 + c → τ2.1 29 r = nI (eE K W c tb g b r)) → G_M_findBefore_65 l v (n + 2) post τ2 (nI i) := by
            intro τ2 hX2 g1 g2 ⟨b, hb, hl⟩
            have hwτ2 : mW (gs_pI τ2 0 48 1) K W c tb g := hw0.kept (hX2.I (k := 0) (j := 48) (x := 1) (by omega)) (fun _ _ => by omega) (fun _ _ _ _ => by omega)
            refine T_M_findBefore_65 (k_waysFrom hwτ2 hi (fun τ3 hX3 => T_M_findBefore_84 ?_))
            rw [nI_1]
            refine ih _ (((hX2.I (k := 0) (j := 48) (x := 1) (by omega)).tr (hX3.mono (fun k j h => by omega))).L (by omega)) ?_ ?_ (Or.inl ⟨?_, b, hb, fun r hr => ?_⟩)
            · rw [pL_1, (hX3 0 47 (by omega)).1, pI_j (by decide)]; exact g1
            · rw [pL_eq, g2]; rfl
            · rw [pL_1, (hX3 0 48 (by omega)).1, pI_eq]
            · rw [pL_1, (hX3 29 r (by omega)).1, pI_k (by decide)]; exact hl r hr
          have e47 : τ1.1 0 47 = 1 := (hX1 0 47 (by omega)).1.trans h1
          have e49 : τ1.2.1 0 49 = sm (fun b => wy K W c tb g b c b) i := (hX1 0 49 (by omega)).2.1.trans h2
          rcases h3 with ⟨h3, b, hb, hl⟩ | ⟨h3, h4⟩
          · have e48 : τ1.1 0 48 = 1 := (hX1 0 48 (by omega)).1.trans h3
            refine ⟨fun _ => fin τ1 hX1' e47 e49 ⟨b, hb, fun r hr => (hX1 29 r (by omega)).1.trans (hl r hr)⟩, fun q => absurd (e48.symm.trans q) (by decide)⟩
          · have e48 : τ1.1 0 48 = 0 := (hX1 0 48 (by omega)).1.trans h3
            refine ⟨fun q => absurd e48 q, fun _ => k_spellRing hwτ1 hi hS ho (fun τ2 hX2 hl => ?_)⟩
            exact fin τ2 (hX1'.tr (hX2.mono (fun k j h => by omega))) ((hX2 0 47 (by omega)).1.trans e47) ((hX2 0 49 (by omega)).2.1.trans e49) ⟨i, ⟨hi, hS, h4⟩, hl⟩
    refine loop 0 (Nat.zero_le _) _ (((sX.rf.I (by omega)).I (by omega)).L (by omega)) ?_ ?_ (Or.inr ⟨?_, fun b' h => absurd h (Nat.not_lt_zero b')⟩)
    · rw [pL_1, pI_j (by decide), pI_eq]
    · rw [pL_eq]; rfl
    · rw [pL_1, pI_eq]
  · exact br_f (by rw [h1]; decide) (hp σ sX.rf h1 hf)
end K12
/-- the frames of what a question of the past leaves -/
def pC (σ σ' : gs_S) : Prop := sX (fun k j => (k = 37 ∧ (j = 6 ∨ j = 7)) ∨ k = 38 ∨ k = 39) σ σ'
def pM (σ σ' : gs_S) : Prop := sX (fun k j => (k = 0 ∧ 47 ≤ j ∧ j ≤ 49) ∨ 29 ≤ k) σ σ'
def pN (σ σ' : gs_S) : Prop := sX (fun k j => k = 40 ∨ k = 41 ∨ (k = 37 ∧ (j = 4 ∨ j = 5 ∨ j = 8 ∨ j = 9))) σ σ'
theorem nI_of_range {x : Int32} {c : Nat} (h1 : ¬ x < 0) (h2 : ¬ nI c ≤ x) (hc : c < 2 ^ 31) : ∃ i, i < c ∧ x = nI i := by
  rcases pk_ix x (n := c) hc with h | h | h
  · exact absurd h h1
  · exact absurd h h2
  · exact h
section K13
variable {l : Launch} {v1 v2 : gs_V} {n : Nat} {σ1 σ2 : gs_S} {K W c : Nat} {tb g : Nat → Nat} {Post : gs_S → gs_S → Prop} {x : Int32}
theorem mW.k0 {σ : gs_S} (h : mW σ K W c tb g) : ¬ σ.1 0 2 = 0 := by
  rw [h.2.1.1]
  have h1 := h.1.1
  have h2 := h.1.2.1
  exact nI_ne0 (by omega) (by omega)
theorem bst_uniq {b b' : Nat} (h : bst K W c tb g b) (h' : bst K W c tb g b') : b = b' := by
  rcases Nat.lt_trichotomy b b' with q | q | q
  · exact absurd h.2.1 (h'.2.2 b q)
  · exact q
  · exact absurd h'.2.1 (h.2.2 b' q)
theorem hB_bst {b : Nat} (h : bst K W c tb g b) : hB K W c tb g := ⟨b, h.1, h.2.1⟩
theorem o_before (hp : ¬ σ1.1 4 5 = 0) (hw : cW σ1 K W c tb g) (hm : mW σ2 K W c tb g) (hc : cB σ1 K W c tb g) (hb : mB σ2 K W c tb g) (hP : ∀ σ1' σ2', pC σ1 σ1' → σ1'.1 37 6 = 1 → fB σ1' K W c tb g → pM σ2 σ2' → σ2'.1 0 47 = 1 → mF σ2' K W c tb g → Post σ1' σ2') : lOi l v1 v2 (n + 7) me_A_before me_M_before [] σ1 σ2 Post := by
  refine E_A_before (T_A_before_0 ⟨fun _ => ?_, fun h => absurd h hp⟩)
  refine E_H_exists (T_H_exists_0 (k_find hw hc (fun σ1' hX h6 hf => ?_)))
  have second : ∀ r, (r = 1 ∧ hB K W c tb g ∨ r = 0 ∧ ¬ hB K W c tb g) → gM l v2 lyM 33 me_M_before (n + 7) [.ref (v2.2.2 0)] σ2 (qI v2 lyM 33 (fun r' σ2' => r = r' ∧ Post σ1' σ2')) := by
    intro r hr
    refine E_M_before (T_M_before_0 ⟨fun _ => ?_, fun h => absurd h hm.k0⟩)
    refine k_findBefore hm hb (fun σ2' hX2 h47 hf2 => ?_)
    have hPP := hP σ1' σ2' hX h6 hf hX2 h47 hf2
    rcases hf2.2 with ⟨h8, b, hb8, _⟩ | ⟨h8, hn8⟩
    · refine br_f (by rw [h8]; decide) (T_M_before_25 ⟨?_, hPP⟩)
      rcases hr with hr | hr
      · exact hr.1
      · exact absurd (hB_bst hb8) hr.2
    · refine br_t h8 (T_M_before_25 ⟨?_, hPP⟩)
      rcases hr with hr | hr
      · exact absurd hr.2 hn8
      · exact hr.1
  have hf0 := hf
  rcases hf with ⟨h7, b, hb7, _⟩ | ⟨h7, hn7⟩
  · rw [h7]
    exact ⟨nar_b1, br_f (by decide) (T_A_before_27 (second 1 (Or.inl ⟨rfl, hB_bst hb7⟩)))⟩
  · rw [h7]
    exact ⟨nar_b0, br_t rfl (T_A_before_27 (second 0 (Or.inr ⟨rfl, hn7⟩)))⟩
theorem o_beforeAt (hp : ¬ σ1.1 4 5 = 0) (hw : cW σ1 K W c tb g) (hm : mW σ2 K W c tb g) (hc : cB σ1 K W c tb g) (hb : mB σ2 K W c tb g) (hP : ∀ σ1' σ2', pC σ1 σ1' → σ1'.1 37 6 = 1 → fB σ1' K W c tb g → pM σ2 σ2' → σ2'.1 0 47 = 1 → mF σ2' K W c tb g → Post σ1' σ2') : lOi l v1 v2 (n + 7) me_A_beforeAt me_M_beforeAt [.int x] σ1 σ2 Post := by
  have hc1 := hw.2.2.2.2.1
  have hc2 := hw.2.2.2.2.2.1
  have ec := hw.2.2.2.2.2.2.1
  have ec2 := hm.2.2.2.2.1
  refine E_A_beforeAt (T_A_beforeAt_0 ⟨fun h => absurd h hp, fun _ => ?_⟩)
  refine E_H_cell (T_H_cell_0 (k_find hw hc (fun σ1' hX h6 hf => ?_)))
  have second : ∀ r, (∀ σ2', mF σ2' K W c tb g → σ2'.1 0 7 = nI c → ((¬ hB K W c tb g → r = -1) ∧ (hB K W c tb g → (x < 0 → r = -1) ∧ (¬ x < 0 → (nI c ≤ x → r = -1) ∧ (¬ nI c ≤ x → vp_in x 68 ∧ r = σ2'.1 29 x.toNatClampNeg))))) → gM l v2 lyM 33 me_M_beforeAt (n + 7) [.ref (v2.2.2 0), .int x] σ2 (qI v2 lyM 33 (fun r' σ2' => r = r' ∧ Post σ1' σ2')) := by
    intro r hr
    refine E_M_beforeAt (T_M_beforeAt_0 ⟨fun _ => ?_, fun h => absurd h hm.k0⟩)
    refine k_findBefore hm hb (fun σ2' hX2 h47 hf2 => ?_)
    have hPP := hP σ1' σ2' hX h6 hf hX2 h47 hf2
    have e7 : σ2'.1 0 7 = nI c := (hX2 0 7 (by omega)).1.trans ec2
    obtain ⟨r1, r2⟩ := hr σ2' hf2 e7
    rcases hf2.2 with ⟨h8, b, hb8, _⟩ | ⟨h8, hn8⟩
    · have r3 := r2 (hB_bst hb8)
      refine br_f (by rw [h8]; decide) ⟨fun q => T_M_beforeAt_41 (T_M_beforeAt_42 ⟨r3.1 q, hPP⟩), fun q => ⟨fun q2 => T_M_beforeAt_41 (T_M_beforeAt_42 ⟨(r3.2 q).1 (by rw [← e7]; exact q2), hPP⟩), fun q2 => ?_⟩⟩
      have r4 := (r3.2 q).2 (by rw [← e7]; exact q2)
      exact ⟨r4.1, T_M_beforeAt_42 ⟨r4.2, hPP⟩⟩
    · exact br_t h8 (T_M_beforeAt_41 (T_M_beforeAt_42 ⟨r1 hn8, hPP⟩))
  have e10 : σ1'.1 10 1 = nI c := (hX 10 1 (by omega)).1.trans ec
  have hf0 := hf
  rcases hf with ⟨h7, b, hb7, hl⟩ | ⟨h7, hn7⟩
  · refine br_f (by rw [h7]; decide) (k_C_has (fun h => br_t rfl (T_H_cell_31 (T_H_cell_32 (T_A_beforeAt_22 (second _ ?_))))) (fun h1 h2 => br_f (by decide) ?_))
    · intro σ2' hf2 e7
      refine ⟨fun q => absurd (hB_bst hb7) q, fun _ => ⟨fun _ => rfl, fun q => ⟨fun _ => rfl, fun q2 => ?_⟩⟩⟩
      rw [e10] at h
      rcases h with h | h
      · exact absurd h q
      · exact absurd h q2
    · rw [e10] at h2
      obtain ⟨i, hi, rfl⟩ := nI_of_range h1 h2 (by omega)
      refine ⟨vp_in_nI (by omega) (by decide), T_H_cell_32 (T_A_beforeAt_22 (second _ ?_))⟩
      intro σ2' hf2 e7
      refine ⟨fun q => absurd (hB_bst hb7) q, fun _ => ⟨fun q => absurd q h1, fun _ => ⟨fun q => absurd q h2, fun _ => ⟨vp_in_nI (by omega) (by decide), ?_⟩⟩⟩⟩
      rw [nI_clamp (by omega), hl i hi]
      rcases hf2.2 with ⟨h8, b', hb8, hl2⟩ | ⟨h8, hn8⟩
      · rw [hl2 i (by omega), bst_uniq hb7 hb8]
      · exact absurd (hB_bst hb7) hn8
  · refine br_t h7 (T_H_cell_31 (T_H_cell_32 (T_A_beforeAt_22 (second _ ?_))))
    intro σ2' hf2 e7
    exact ⟨fun _ => rfl, fun q => absurd q hn7⟩
theorem o_ways (hp : ¬ σ1.1 4 5 = 0) (hw : cW σ1 K W c tb g) (hm : mW σ2 K W c tb g) (hr : rfs σ1) (hc : σ1.1 37 8 = 0 ∨ (σ1.1 37 8 = 1 ∧ σ1.2.1 37 9 = tot K W c tb g)) (hb : mB σ2 K W c tb g) (hP : ∀ σ1' σ2', pN σ1 σ1' → rfs σ1' → σ1'.1 37 8 = 1 → σ1'.2.1 37 9 = tot K W c tb g → (∀ j, j ≠ 8 → σ1'.1 37 j = σ1.1 37 j) → pM σ2 σ2' → σ2'.1 0 47 = 1 → mF σ2' K W c tb g → Post σ1' σ2') : lOl l v1 v2 (n + 6) me_A_ways me_M_ways [] σ1 σ2 Post := by
  refine E_A_ways (T_A_ways_0 ⟨fun h => absurd h hp, fun _ => ?_⟩)
  refine k_count hw hr hc (fun σ1' hX h1 h2 h3 h4 => T_A_ways_23 ?_)
  refine E_M_ways (T_M_ways_0 ⟨fun _ => ?_, fun h => absurd h hm.k0⟩)
  refine k_findBefore hm hb (fun σ2' hX2 h47 hf2 => ⟨hf2.1.symm, hP σ1' σ2' hX h1 h2 h3 h4 hX2 h47 hf2⟩)
end K13
