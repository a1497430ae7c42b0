/-! The rings before: the reference's side. -/
def mW (σ : gs_S) (K W c : Nat) (tb g : Nat → Nat) : Prop := okR K W tb ∧ mR σ K W tb ∧ 1 ≤ c ∧ c ≤ 64 ∧ σ.1 0 7 = nI c ∧ (∀ j, j < c → σ.1 3 j = nI (g j)) ∧ ∀ j, j < c → g j < K
theorem mW.kept {σ σ' : gs_S} {K W c : Nat} {tb g : Nat → Nat} {S : Nat → Nat → Prop} (h : mW σ K W c tb g) (hX : sX S σ σ') (h0 : ∀ j, j < 8 → ¬ S 0 j) (hs : ∀ k j, 2 ≤ k → k ≤ 3 → ¬ S k j) : mW σ' K W c tb g := by
  obtain ⟨h1, h2, h5, h6, h7, h8, h9⟩ := h
  exact ⟨h1, h2.kept hX (fun j hj => h0 j (by omega)) (fun j => hs 2 j (by omega) (by omega)), h5, h6, (hX 0 7 (h0 7 (by omega))).1.trans h7, fun j hj => (hX 3 j (hs 3 j (by omega) (by omega))).1.trans (h8 j hj), h9⟩
def fw (K W c : Nat) (tb g : Nat → Nat) (b : Nat) : Nat → Nat → Prop
  | 0, y => y = b
  | t + 1, y => ∃ u, u < K ^ W ∧ tb u = dd W c g t ∧ u % K ^ (W - 1) = y ∧ fw K W c tb g b t (u / K)
theorem sm_zero {F : Nat → Int64} : ∀ m, (∀ u, u < m → F u = 0) → sm F m = 0
  | 0, _ => rfl
  | m + 1, h => by
    show sm F m + F m = 0
    rw [sm_zero m (fun u hu => h u (by omega)), h m (by omega)]
    rfl
theorem wy_fw {K W c b : Nat} {tb g : Nat → Nat} : ∀ t y, ¬ fw K W c tb g b t y → wy K W c tb g b t y = 0
  | 0, y, h => by
    exact if_neg (fun q : y = b => h q)
  | t + 1, y, h => by
    show sm _ _ = 0
    refine sm_zero _ (fun u hu => ?_)
    by_cases hc : tb u = dd W c g t ∧ u % K ^ (W - 1) = y
    · rw [if_pos hc]
      exact wy_fw t (u / K) (fun q => h ⟨u, hu, hc.1, hc.2, q⟩)
    · rw [if_neg hc]
theorem fw_bS {K W c b : Nat} {tb g : Nat → Nat} : ∀ t, t ≤ c → ∀ x, fw K W c tb g b t x → bS K W c tb g b (c - t) x → bS K W c tb g b c b := by
  intro t
  induction t with
  | zero =>
    intro _ x h1 h2
    rw [show x = b from h1] at h2
    exact h2
  | succ t ih =>
    intro ht x h1 h2
    obtain ⟨u, hu, e1, e2, e3⟩ := h1
    refine ih (by omega) (u / K) e3 ?_
    rw [show c - t = (c - (t + 1)) + 1 by omega]
    refine ⟨u, hu, rfl, ?_, ?_⟩
    · rw [show c - 1 - (c - (t + 1)) = t by omega]; exact e1
    · rw [e2]; exact h2
theorem wy_no {K W c b : Nat} {tb g : Nat → Nat} (h : ¬ bS K W c tb g b c b) : wy K W c tb g b c b = 0 :=
  wy_fw c b (fun q => h (fw_bS c (Nat.le_refl _) b q (by rw [Nat.sub_self]; exact rfl)))
section K11
variable {l : Launch} {v : gs_V} {n : Nat} {σ : gs_S} {K W c b : Nat} {tb g : Nat → Nat}
theorem k_wanted {post : Int32 → gs_S → Prop} {t : Nat} (hw : mW σ K W c tb g) (ht : t ≤ 64) (hp : post (nI (dd W c g t)) σ) : gM l v lyM 33 me_M_wanted (n + 1) [.ref (v.2.2 0), .int (nI t)] σ (qI v lyM 33 post) := by
  obtain ⟨hR, hC, hc1, hc2, ec, eg, hg⟩ := hw
  have hW := hR.2.2.2.1
  have hW1 := hR.2.2.1
  refine E_M_wanted (T_M_wanted_0 ?_)
  rw [hC.2.1, ec, show nI W - 1 = nI (W - 1) from pk_sub (a := W) (b := 1) hW1, show nI (W - 1) / 2 = nI ((W - 1) / 2) from pk_div (d := 2) (by omega) (by decide) (by decide), nI_add, jR_n (by omega) (by omega) (by omega)]
  have hm : (t + (W - 1) / 2) % c < c := Nat.mod_lt _ hc1
  refine ⟨nI_ne0 (by omega) (by omega), vp_in_nI (by omega) (by decide), ?_⟩
  rw [nI_clamp (by omega), eg _ hm]
  exact hp
theorem k_lookBack {post : gs_S → Prop} (hw : mW σ K W c tb g) (hb : b < K ^ (W - 1)) (hp : ∀ σ', sX (fun k _ => k = 32) σ σ' → (∀ t, t ≤ c → ∀ y, y < 64 → (bt (σ'.2.1 32 t) y = true ↔ bS K W c tb g b (c - t) y)) → post σ') : gM l v lyM 33 me_M_lookBack (n + 2) [.ref (v.2.2 0), .int (nI b)] σ (qV v lyM 33 post) := by
  have hw0 := hw
  obtain ⟨hR, hC, hc1, hc2, ec, eg, hg⟩ := hw
  have hN := pw_le1 hR.2.1 hR.2.2.2.1
  have hNp := pw_pos (W := W - 1) hR.1
  have hKW := pw_le hR.2.1 hR.2.2.2.1
  have hK := hR.2.1
  have hK2 := hR.1
  have loop : ∀ r, r ≤ c → ∀ τ, sX (fun k _ => k = 32) σ τ → (∀ t, r ≤ t → t ≤ c → ∀ y, y < 64 → (bt (τ.2.1 32 t) y = true ↔ bS K W c tb g b (c - t) y)) → G_M_lookBack_19 l v (n + 1) post τ (nI r - 1) := by
    intro r
    induction r with
    | zero =>
      intro _ τ hX hI
      exact T_M_lookBack_19 (br_t (by decide) (hp τ hX (fun t ht => hI t (Nat.zero_le _) ht)))
    | succ r ih =>
      intro hr τ hX hI
      rw [nI_pred r]
      refine T_M_lookBack_19 (br_f (nI_pos (by omega)) ⟨vp_in_nI (by omega) (by decide), ?_⟩)
      rw [nI_clamp (by omega)]
      have inner : ∀ w, w ≤ K ^ W → ∀ ρ, sX (fun k _ => k = 32) σ ρ → (∀ t, r + 1 ≤ t → t ≤ c → ∀ y, y < 64 → (bt (ρ.2.1 32 t) y = true ↔ bS K W c tb g b (c - t) y)) → (∀ y, y < 64 → (bt (ρ.2.1 32 r) y = true ↔ ∃ u, u < w ∧ u / K = y ∧ tb u = dd W c g r ∧ bS K W c tb g b (c - (r + 1)) (u % K ^ (W - 1)))) → G_M_lookBack_32 l v (n + 1) post ρ (nI r) (nI w) := by
        refine dn ?_ ?_
        · intro ρ hX2 hJ hA
          refine T_M_lookBack_32 (br_t (by rw [(hX2 0 5 (by omega)).1, hC.2.2.2.1]; exact nI_le (Nat.le_refl _) (by omega)) ?_)
          rw [show nI r + (-1) = nI r - 1 from (Int32.sub_eq_add_neg _ _).symm]
          refine ih (by omega) ρ hX2 (fun t ht1 ht2 y hy => ?_)
          by_cases htr : t = r
          · subst htr
            rw [hA y hy, show c - t = (c - (t + 1)) + 1 by omega]
            show _ ↔ ∃ u, u < K ^ W ∧ u / K = y ∧ tb u = dd W c g (c - 1 - (c - (t + 1))) ∧ bS K W c tb g b (c - (t + 1)) (u % K ^ (W - 1))
            rw [show c - 1 - (c - (t + 1)) = t by omega]
          · exact hJ t (by omega) ht2 y hy
        · intro w hw' ihw ρ hX2 hJ hA
          have hwρ : mW ρ K W c tb g := hw0.kept hX2 (fun _ _ => by omega) (fun _ _ _ _ => by omega)
          have hCρ := hwρ.2.1
          have hd := div_lt' hR hw'
          have hm : w % K ^ (W - 1) < K ^ (W - 1) := Nat.mod_lt _ hNp
          have ht1 := hR.2.2.2.2 w hw'
          have ht2 := dd_lt (W := W) hc1 hg r
          refine T_M_lookBack_32 (br_f (by rw [(hX2 0 5 (by omega)).1, hC.2.2.2.1]; exact nI_ge hw' (by omega)) ⟨vp_in_nI (by omega) (by decide), k_wanted hwρ (by omega) ?_⟩)
          rw [nI_clamp (by omega), hCρ.2.2.2.2 w hw', nI_1 r, nI_clamp (n := r + 1) (by omega), hCρ.2.2.1, hCρ.1, jR_n (by omega) (by omega) (by omega), (jA_bit (ρ.2.1 32 (r + 1)) (show w % K ^ (W - 1) < 64 by omega)).1, pk_div (by omega) (by omega) (by omega), nI_clamp (n := r) (by omega), hJ (r + 1) (by omega) (by omega) _ (show w % K ^ (W - 1) < 64 by omega)]
          have skip : ¬ (tb w = dd W c g r ∧ bS K W c tb g b (c - (r + 1)) (w % K ^ (W - 1))) → G_M_lookBack_32 l v (n + 1) post ρ (nI r) (nI (w + 1)) := fun hn => ihw ρ hX2 hJ (fun y hy => by
            rw [hA y hy]
            constructor
            · rintro ⟨u, hu, h⟩; exact ⟨u, by omega, h⟩
            · rintro ⟨u, hu, h1, h2⟩
              refine ⟨u, ?_, h1, h2⟩
              rcases Nat.lt_or_ge u w with q | q
              · exact q
              · exfalso; apply hn; rw [show w = u by omega]; exact h2)
          refine ⟨fun h => T_M_lookBack_93 (by rw [nI_1]; exact skip (fun q => h (by rw [q.1]))), fun h => ⟨vp_in_nI (by omega) (by decide), nI_ne0 hNp (by omega), fun h2 => T_M_lookBack_93 (by rw [nI_1]; exact skip (fun q => h2 q.2)), fun h2 => ⟨vp_in_nI (by omega) (by decide), nI_ne0 (by omega) (by omega), vp_in_nI (by omega) (by decide), T_M_lookBack_93 ?_⟩⟩⟩
          have he : tb w = dd W c g r := (nI_nat (by omega) (by omega)).mp h
          rw [nI_1]
          refine ihw _ (hX2.L rfl) (fun t ht1 ht2 y hy => ?_) (fun y hy => ?_)
          · rw [pL_row]
            show bt (if t = r then _ else ρ.2.1 32 t) y = true ↔ _
            rw [if_neg (by omega)]
            exact hJ t ht1 ht2 y hy
          · rw [pL_eq, bt_or, Bool.or_eq_true, bt_one _ (show w / K < 64 by omega) y hy, decide_eq_true_eq, hA y hy]
            constructor
            · rintro (⟨u, hu, h⟩ | h)
              · exact ⟨u, by omega, h⟩
              · exact ⟨w, by omega, h.symm, he, h2⟩
            · rintro ⟨u, hu, h1, h3⟩
              rcases Nat.lt_or_ge u w with q | q
              · exact Or.inl ⟨u, q, h1, h3⟩
              · refine Or.inr ?_
                rw [← h1, show u = w by omega]
      refine inner 0 (Nat.zero_le _) _ (hX.L rfl) (fun t ht1 ht2 y hy => ?_) (fun y hy => ?_)
      · rw [pL_row]
        show bt (if t = r then _ else τ.2.1 32 t) y = true ↔ _
        rw [if_neg (by omega)]
        exact hI t ht1 ht2 y hy
      · rw [pL_eq, bt_0]
        exact ⟨fun h => (by cases h), fun ⟨u, hu, _⟩ => absurd hu (Nat.not_lt_zero u)⟩
  refine E_M_lookBack (T_M_lookBack_0 ?_)
  rw [ec, nI_clamp (by omega)]
  refine ⟨vp_in_nI (by omega) (by decide), loop c (Nat.le_refl _) _ (sX.rf.L rfl) (fun t ht1 ht2 y hy => ?_)⟩
  have e : t = c := by omega
  subst e
  rw [pL_eq, bt_one b (by omega) y hy, decide_eq_true_eq, Nat.sub_self]
  exact Iff.rfl
theorem k_spellRing {post : gs_S → Prop} (hw : mW σ K W c tb g) (hb : b < K ^ (W - 1)) (hS : bS K W c tb g b c b) (ho : ∀ t, t ≤ c → ∀ y, y < 64 → (bt (σ.2.1 32 t) y = true ↔ bS K W c tb g b (c - t) y)) (hp : ∀ σ', sX (fun k _ => k = 29) σ σ' → (∀ i, i < W - 1 + c → σ'.1 29 i = nI (eE K W c tb g b i)) → post σ') : gM l v lyM 33 me_M_spellRing (n + 2) [.ref (v.2.2 0), .int (nI b)] σ (qV v lyM 33 post) := by
  have hw0 := hw
  obtain ⟨hR, hC, hc1, hc2, ec, eg, hg⟩ := hw
  have hN := pw_le1 hR.2.1 hR.2.2.2.1
  have hNp := pw_pos (W := W - 1) hR.1
  have hKW := pw_le hR.2.1 hR.2.2.2.1
  have hK := hR.2.1
  have hK2 := hR.1
  have hW := hR.2.2.2.1
  have hW1 := hR.2.2.1
  have second : ∀ t, t ≤ c → ∀ τ, sX (fun k _ => k = 29) σ τ → (∀ i, i < W - 1 + t → τ.1 29 i = nI (eE K W c tb g b i)) → G_M_spellRing_50 l v (n + 1) post τ (nI (nE K W c tb g b t)) (nI t) := by
    refine dn ?_ ?_
    · intro τ hX hI
      exact T_M_spellRing_50 (br_t (by rw [(hX 0 7 (by omega)).1, ec]; exact nI_le (Nat.le_refl c) (by omega)) (hp τ hX hI))
    · intro t ht ih τ hX hI
      have hwτ : mW τ K W c tb g := hw0.kept hX (fun _ _ => by omega) (fun _ _ _ _ => by omega)
      have hCτ := hwτ.2.1
      have hx := nE_lt (c := c) (g := g) hR hb t
      have hle := lE_ok hR hb hS ht
      have hzK := hle.1.1
      have hwin : ∀ z, z < K → nE K W c tb g b t * K + z < K ^ W := fun z hz => by
        rw [pw_s hW1]
        have : (nE K W c tb g b t + 1) * K ≤ K ^ (W - 1) * K := Nat.mul_le_mul_right K hx
        rw [Nat.add_mul] at this
        omega
      refine T_M_spellRing_50 (br_f (by rw [(hX 0 7 (by omega)).1, ec]; exact nI_ge ht (by omega)) ?_)
      refine dn0 (N := eE K W c tb g b (W - 1 + t)) (P := fun z => G_M_spellRing_61 l v (n + 1) post τ (nI (nE K W c tb g b t)) (nI t) (nI z)) ?_ ?_
      · have h1 := hwin _ hzK
        have h2 : (nE K W c tb g b t * K + eE K W c tb g b (W - 1 + t)) % K ^ (W - 1) < K ^ (W - 1) := Nat.mod_lt _ hNp
        have e1 : τ.1 0 3 - 1 + nI t = nI (W - 1 + t) := by
          rw [hCτ.2.1, show nI W - 1 = nI (W - 1) from pk_sub (a := W) (b := 1) hW1, nI_add]
        refine T_M_spellRing_61 ?_
        rw [hCτ.1, pk_mul, nI_add, nI_clamp (n := nE K W c tb g b t * K + eE K W c tb g b (W - 1 + t)) (by omega)]
        refine ⟨vp_in_nI (by omega) (by decide), k_wanted hwτ (by omega) ?_⟩
        rw [hCτ.2.2.2.2 _ h1, hle.1.2.1, hCτ.1, pk_mul, nI_add, hCτ.2.2.1, jR_n (by omega) (by omega) (by omega), nI_1, nI_clamp (n := t + 1) (by omega), e1, (jA_bit _ (show (nE K W c tb g b t * K + eE K W c tb g b (W - 1 + t)) % K ^ (W - 1) < 64 by omega)).2, (hX 32 _ (by omega)).2.1]
        have e := (ho (t + 1) (by omega) _ (show (nE K W c tb g b t * K + eE K W c tb g b (W - 1 + t)) % K ^ (W - 1) < 64 by omega)).mpr (by rw [show c - (t + 1) = c - 1 - t by omega]; exact hle.1.2.2)
        refine ⟨fun q => absurd rfl q, fun _ => ⟨vp_in_nI (by omega) (by decide), nI_ne0 hNp (by omega), fun _ => ⟨vp_in_nI (by omega) (by decide), nI_ne0 hNp (by omega), ?_⟩, fun q => absurd (e.symm.trans q) (by decide)⟩⟩
        rw [nI_clamp (by omega), ← nE_s hR]
        refine ih _ (hX.I rfl) (fun i hi => ?_)
        by_cases hi2 : i = W - 1 + t
        · rw [hi2, pI_eq]
        · rw [pI_j hi2]; exact hI i (by omega)
      · intro z hz ihz
        have hzK2 : z < K := by omega
        have h1 := hwin z hzK2
        have h2 : (nE K W c tb g b t * K + z) % K ^ (W - 1) < K ^ (W - 1) := Nat.mod_lt _ hNp
        have ht1 := hR.2.2.2.2 _ h1
        have ht2 := dd_lt (W := W) hc1 hg t
        refine T_M_spellRing_61 ?_
        rw [hCτ.1, pk_mul, nI_add, nI_clamp (n := nE K W c tb g b t * K + z) (by omega)]
        refine ⟨vp_in_nI (by omega) (by decide), k_wanted hwτ (by omega) ?_⟩
        rw [hCτ.2.2.2.2 _ h1, hCτ.1, pk_mul, nI_add, hCτ.2.2.1, jR_n (by omega) (by omega) (by omega), nI_1, nI_clamp (n := t + 1) (by omega), (jA_bit _ (show (nE K W c tb g b t * K + z) % K ^ (W - 1) < 64 by omega)).2, (hX 32 _ (by omega)).2.1]
        have e := ho (t + 1) (by omega) _ (show (nE K W c tb g b t * K + z) % K ^ (W - 1) < 64 by omega)
        rw [show c - (t + 1) = c - 1 - t by omega] at e
        refine ⟨fun _ => T_M_spellRing_113 (by rw [nI_1]; exact ihz), fun h => ⟨vp_in_nI (by omega) (by decide), nI_ne0 hNp (by omega), fun h3 => ?_, fun _ => T_M_spellRing_113 (by rw [nI_1]; exact ihz)⟩⟩
        exfalso
        have hb2 : bt (σ.2.1 32 (t + 1)) ((nE K W c tb g b t * K + z) % K ^ (W - 1)) = true := by
          cases q : bt (σ.2.1 32 (t + 1)) ((nE K W c tb g b t * K + z) % K ^ (W - 1)) with
          | false => exact absurd q h3
          | true => rfl
        exact hle.2 z hz ⟨hzK2, (nI_nat (by omega) (by omega)).mp h, e.mp hb2⟩
  refine E_M_spellRing (T_M_spellRing_0 ?_)
  have first : ∀ i, i ≤ W - 1 → ∀ τ, sX (fun k _ => k = 29) σ τ → (∀ j, j < i → τ.1 29 j = nI (eE K W c tb g b j)) → G_M_spellRing_2 l v (n + 1) post τ (nI b) (nI i) := by
    refine dn ?_ ?_
    · intro τ hX hI
      have hCτ : mR τ K W tb := hC.kept hX (fun _ _ => by omega) (fun _ => by omega)
      refine T_M_spellRing_2 (br_t (by rw [hCτ.2.1, show nI W - 1 = nI (W - 1) from pk_sub (a := W) (b := 1) hW1]; exact nI_le (Nat.le_refl _) (by omega)) ?_)
      exact second 0 (Nat.zero_le _) τ hX (fun i hi => hI i (by omega))
    · intro i hi ih τ hX hI
      have hCτ : mR τ K W tb := hC.kept hX (fun _ _ => by omega) (fun _ => by omega)
      have e2 : nI W - 2 - nI i = nI (W - 2 - i) := by
        rw [show nI W - 2 = nI (W - 2) from pk_sub (a := W) (b := 2) (by omega)]
        exact pk_sub (by omega)
      have hpp : 0 < K ^ (W - 2 - i) := pw_pos hK2
      have hpl : K ^ (W - 2 - i) ≤ 256 := pw_le hK (by omega)
      refine T_M_spellRing_2 (br_f (by rw [hCτ.2.1, show nI W - 1 = nI (W - 1) from pk_sub (a := W) (b := 1) hW1]; exact nI_ge hi (by omega)) ?_)
      rw [hCτ.2.1, e2, hCτ.1]
      refine k_powerOf (by omega) ?_
      rw [hCτ.1, pk_div (by omega) hpp (by omega), jR_n (Nat.lt_of_le_of_lt (Nat.div_le_self _ _) (by omega)) (by omega) (by omega), nI_clamp (by omega), nI_1]
      refine ⟨nI_ne0 hpp (by omega), nI_ne0 (by omega) (by omega), vp_in_nI (by omega) (by decide), ih _ (hX.I rfl) (fun j hj => ?_)⟩
      by_cases hji : j = i
      · subst hji
        rw [pI_eq]
        unfold eE
        rw [if_pos (by omega)]
      · rw [pI_j hji]; exact hI j (by omega)
  exact first 0 (Nat.zero_le _) σ sX.rf (fun j hj => absurd hj (Nat.not_lt_zero j))
end K11
