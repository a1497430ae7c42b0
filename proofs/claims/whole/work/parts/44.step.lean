/-! step, population, next, set: with a rule. -/
theorem mR.kept {σ σ' : gs_S} {K W : Nat} {tb : Nat → Nat} {S : Nat → Nat → Prop} (h : mR σ K W tb) (hX : sX S σ σ') (h0 : ∀ j, j < 6 → ¬ S 0 j) (h2 : ∀ j, ¬ S 2 j) : mR σ' K W tb := by
  obtain ⟨a, b, c, d, e⟩ := h
  exact ⟨(hX 0 2 (h0 2 (by omega))).1.trans a, (hX 0 3 (h0 3 (by omega))).1.trans b, (hX 0 4 (h0 4 (by omega))).1.trans c, (hX 0 5 (h0 5 (by omega))).1.trans d, fun j hj => (hX 2 j (h2 j)).1.trans (e j hj)⟩
-- how many of the first i are x; at how many of the first i they differ
def cn32 (f : Nat → Nat) (x : Nat) : Nat → Nat
  | 0 => 0
  | i + 1 => cn32 f x i + (if f i = x then 1 else 0)
def cnD (f h : Nat → Nat) : Nat → Nat
  | 0 => 0
  | i + 1 => cnD f h i + (if f i = h i then 0 else 1)
section K4s
variable {l : Launch} {v v1 v2 : gs_V} {n : Nat} {σ σ1 σ2 : gs_S} {Post : gs_S → gs_S → Prop} {x y : Int32}
theorem k_turn {post : gs_S → Prop} {K W c : Nat} {tb g : Nat → Nat} (hR : okR K W tb) (hC : mR σ K W tb) (hc1 : 1 ≤ c) (hc2 : c ≤ 64) (ec : σ.1 0 7 = nI c) (eg : ∀ j, j < c → σ.1 3 j = nI (g j)) (hg : ∀ j, j < c → g j < K)
    (hp : ∀ σ', sX (fun k _ => k = 3 ∨ k = 4) σ σ' → (∀ j, j < c → σ'.1 3 j = nI (nx K W c tb g j)) → (∀ j, c ≤ j → σ'.1 3 j = σ.1 3 j) → post σ') : gM l v lyM 33 me_M_turn (n + 1) [.ref (v.2.2 0)] σ (qV v lyM 33 post) := by
  have hK := hR.2.1
  have hW := hR.2.2.2.1
  have hW1 := hR.2.2.1
  have hKW := pw_le hK hW
  have hwin : ∀ i, pk K (fun j => g ((i + 4 * c - (W - 1) / 2 + j) % c)) W < K ^ W := fun i => pk_lt' W (fun j _ => hg _ (Nat.mod_lt _ hc1))
  have copy : ∀ i, i ≤ c → ∀ τ, sX (fun k _ => k = 3 ∨ k = 4) σ τ → (∀ j, j < c → τ.1 4 j = nI (nx K W c tb g j)) → (∀ j, j < i → τ.1 3 j = nI (nx K W c tb g j)) → (∀ j, c ≤ j → τ.1 3 j = σ.1 3 j) → G_M_turn_90 l v n post τ (nI i) := by
    refine dn ?_ ?_
    · intro τ hX h4 h3 h5
      have ecτ : τ.1 0 7 = nI c := (hX 0 7 (by omega)).1.trans ec
      exact T_M_turn_90 (br_t (by rw [ecτ]; exact nI_le (Nat.le_refl c) (by omega)) (hp τ hX h3 h5))
    · intro i hi ih τ hX h4 h3 h5
      have ecτ : τ.1 0 7 = nI c := (hX 0 7 (by omega)).1.trans ec
      refine T_M_turn_90 (br_f (by rw [ecτ]; exact nI_ge hi (by omega)) ⟨vp_in_nI (by omega) (by decide), vp_in_nI (by omega) (by decide), ?_⟩)
      rw [nI_clamp (by omega), nI_1]
      refine ih _ (hX.I (Or.inl rfl)) (fun j hj => by rw [pI_k (by decide)]; exact h4 j hj) (fun j hj => ?_) (fun j hj => by rw [pI_j (by omega)]; exact h5 j hj)
      by_cases hji : j = i
      · subst hji; rw [pI_eq]; exact h4 j hi
      · rw [pI_j hji]; exact h3 j (by omega)
  have loop : ∀ i, i ≤ c → ∀ τ, sX (fun k _ => k = 4) σ τ → (∀ j, j < i → τ.1 4 j = nI (nx K W c tb g j)) → G_M_turn_11 l v n post τ (nI ((W - 1) / 2)) (nI i) := by
    refine dn ?_ ?_
    · intro τ hX h4
      have ecτ : τ.1 0 7 = nI c := (hX 0 7 (by omega)).1.trans ec
      exact T_M_turn_11 (br_t (by rw [ecτ]; exact nI_le (Nat.le_refl c) (by omega)) (copy 0 (Nat.zero_le _) τ (hX.mono (fun k j h => Or.inr h)) h4 (fun j hj => absurd hj (Nat.not_lt_zero j)) (fun j _ => (hX 3 j (by omega)).1)))
    · intro i hi ih τ hX h4
      have ecτ : τ.1 0 7 = nI c := (hX 0 7 (by omega)).1.trans ec
      have hCτ : mR τ K W tb := hC.kept hX (fun _ _ => by omega) (fun _ => by omega)
      refine T_M_turn_11 (br_f (by rw [ecτ]; exact nI_ge hi (by omega)) ?_)
      refine dn0 (N := W) (P := fun j => G_M_turn_24 l v n post τ (nI ((W - 1) / 2)) (nI i) (nI (pk K (fun j => g ((i + 4 * c - (W - 1) / 2 + j) % c)) j)) (nI j)) ?_ ?_
      · have hw := hwin i
        refine T_M_turn_24 (br_t (by rw [hCτ.2.1]; exact nI_le (Nat.le_refl W) (by omega)) ⟨vp_in_nI (by omega) (by decide), vp_in_nI (by omega) (by decide), ?_⟩)
        rw [nI_clamp (by omega), nI_clamp (by omega), nI_1]
        refine ih _ (hX.I rfl) (fun j hj => ?_)
        by_cases hji : j = i
        · subst hji; rw [pI_eq]; exact hCτ.2.2.2.2 _ hw
        · rw [pI_j hji]; exact h4 j (by omega)
      · intro j hj ihj
        have hmod : (i + 4 * c - (W - 1) / 2 + j) % c < c := Nat.mod_lt _ hc1
        have e1 : nI i - nI ((W - 1) / 2) + nI j + 4 * nI c = nI (i + 4 * c - (W - 1) / 2 + j) := by
          have e2 : nI (i + 4 * c - (W - 1) / 2 + j) + nI ((W - 1) / 2) = nI i + nI j + nI 4 * nI c := by
            rw [nI_add, pk_mul, nI_add, nI_add]
            congr 1
            omega
          have e4 : (4 : Int32) = nI 4 := rfl
          rw [e4]
          have e3 : nI i - nI ((W - 1) / 2) + nI j + nI 4 * nI c = (nI i + nI j + nI 4 * nI c) - nI ((W - 1) / 2) := by
            rw [Int32.sub_eq_add_neg, Int32.sub_eq_add_neg, Int32.add_assoc, Int32.add_assoc, Int32.add_assoc, Int32.add_assoc, Int32.add_comm (-nI ((W - 1) / 2)), Int32.add_assoc]
          rw [e3, ← e2, Int32.add_sub_cancel]
        refine T_M_turn_24 (br_f (by rw [hCτ.2.1]; exact nI_ge hj (by omega)) ?_)
        rw [ecτ, e1, jR_n (by omega) (by omega) (by omega)]
        refine ⟨nI_ne0 (by omega) (by omega), vp_in_nI (by omega) (by decide), ?_⟩
        rw [nI_clamp (by omega), (hX 3 _ (by omega)).1, eg _ hmod, hCτ.1, pk_mul, nI_add, nI_1]
        exact ihj
  refine E_M_turn (T_M_turn_0 ?_)
  rw [hC.2.1, show nI W - 1 = nI (W - 1) from pk_sub (a := W) (b := 1) hW1, show nI (W - 1) / 2 = nI ((W - 1) / 2) from pk_div (d := 2) (by omega) (by decide) (by decide)]
  exact loop 0 (Nat.zero_le _) σ sX.rf (fun j hj => absurd hj (Nat.not_lt_zero j))
theorem nI_nat {a b : Nat} (ha : a < 2 ^ 31) (hb : b < 2 ^ 31) : nI a = nI b ↔ a = b := nI_eq ha hb
theorem k_run {post : Int32 → gs_S → Prop} {K W c m : Nat} {tb g : Nat → Nat} (hR : okR K W tb) (hC : cR σ K W tb) (hc1 : 1 ≤ c) (hc2 : c ≤ 64) (ec : σ.1 10 1 = nI c) (eg : ∀ j, j < c → σ.1 11 j = nI (g j)) (hg : ∀ j, j < c → g j < K) (hm : m ≤ 200)
    (hp : ∀ σ', sX (fun k _ => k = 11 ∨ k = 12 ∨ k = 13) σ σ' → (∀ j, j < c → σ'.1 11 j = nI (itr K W c tb m g j)) → (∀ j, c ≤ j → σ'.1 11 j = σ.1 11 j) → post (nI (cnD (itr K W c tb m g) g c)) σ') : gM l v lyC 42 me_C_run (n + 3) [.ref (v.2.2 10), .int (nI m)] σ (qI v lyC 42 post) := by
  have hK := hR.2.1
  have cntl : ∀ τ, sX (fun k _ => k = 11 ∨ k = 12 ∨ k = 13) σ τ → (∀ j, j < c → τ.1 11 j = nI (itr K W c tb m g j)) → (∀ j, c ≤ j → τ.1 11 j = σ.1 11 j) → (∀ j, j < c → τ.1 13 j = nI (g j)) → ∀ i, i ≤ c → G_C_run_38 l v (n + 2) post τ (nI (cnD (itr K W c tb m g) g i)) (nI i) := by
    intro τ hX h1 h2 h3
    have ecτ : τ.1 10 1 = nI c := (hX 10 1 (by omega)).1.trans ec
    refine dn ?_ ?_
    · exact T_C_run_38 (br_t (by rw [ecτ]; exact nI_le (Nat.le_refl c) (by omega)) (hp τ hX h1 h2))
    · intro i hi ih
      have q1 := itr_lt (c := c) hR hc1 hg m i hi
      have q2 := hg i hi
      refine T_C_run_38 (br_f (by rw [ecτ]; exact nI_ge hi (by omega)) ⟨vp_in_nI (by omega) (by decide), vp_in_nI (by omega) (by decide), ?_⟩)
      rw [nI_clamp (by omega), h1 i hi, h3 i hi]
      have ih' : G_C_run_38 l v (n + 2) post τ (nI (cnD (itr K W c tb m g) g i + (if itr K W c tb m g i = g i then 0 else 1))) (nI (i + 1)) := ih
      refine ⟨fun h => T_C_run_64 ?_, fun h => T_C_run_64 ?_⟩
      · rw [if_pos ((nI_nat (by omega) (by omega)).mp h)] at ih'
        rw [nI_1]; exact ih'
      · rw [if_neg (fun q => h (by rw [q]))] at ih'
        rw [nI_1, nI_1]; exact ih'
  have loop : ∀ i, i ≤ m → ∀ τ, sX (fun k _ => k = 11 ∨ k = 12 ∨ k = 13) σ τ → (∀ j, j < c → τ.1 11 j = nI (itr K W c tb i g j)) → (∀ j, c ≤ j → τ.1 11 j = σ.1 11 j) → (∀ j, j < c → τ.1 13 j = nI (g j)) → G_C_run_19 l v (n + 2) post τ (nI m) (nI i) := by
    refine dn ?_ ?_
    · intro τ hX h1 h2 h3
      exact T_C_run_19 (br_t (nI_le (Nat.le_refl m) (by omega)) (cntl τ hX h1 h2 h3 0 (Nat.zero_le _)))
    · intro i hi ih τ hX h1 h2 h3
      refine T_C_run_19 (br_f (nI_ge hi (by omega)) ?_)
      have hCτ : cR τ K W tb := hC.kept hX (fun _ => by omega) (fun _ => by omega)
      refine k_stepOnce hR hCτ hc1 hc2 ((hX 10 1 (by omega)).1.trans ec) h1 (itr_lt hR hc1 hg i) (fun τ' hX' g1 g2 => ?_)
      rw [nI_1]
      exact ih τ' (hX.tr (hX'.mono (fun k j h => by omega))) g1 (fun j hj => (g2 j hj).trans (h2 j hj)) (fun j hj => (hX' 13 j (by omega)).1.trans (h3 j hj))
  refine E_C_run (T_C_run_0 ⟨by rw [ec, nI_clamp (by omega)]; exact ⟨nI_pos (by omega), hc2⟩, ?_⟩)
  rw [ec, nI_clamp (by omega)]
  have hX0 : sX (fun k _ => k = 11 ∨ k = 12 ∨ k = 13) σ (gs_pA σ 13 (va_cpy (σ.1 11) (σ.1 13) 0 0 c)) := sX.rf.A (fun _ => Or.inr (Or.inr rfl))
  refine loop 0 (Nat.zero_le _) _ hX0 (fun j hj => by rw [pA_k (by decide)]; exact eg j hj) (fun j hj => by rw [pA_k (by decide)]) (fun j hj => ?_)
  rw [pA_row, pk_cpy_in (by omega) (by omega), Nat.sub_zero, Nat.zero_add]
  exact eg j hj
theorem k_M_step {post : Int32 → gs_S → Prop} {K W c m : Nat} {tb g : Nat → Nat} (hR : okR K W tb) (hC : mR σ K W tb) (hc1 : 1 ≤ c) (hc2 : c ≤ 64) (ec : σ.1 0 7 = nI c) (eg : ∀ j, j < c → σ.1 3 j = nI (g j)) (hg : ∀ j, j < c → g j < K) (hm : m ≤ 200)
    (hp : ∀ σ', sX (fun k j => k = 3 ∨ k = 4 ∨ k = 29 ∨ (k = 0 ∧ j = 47)) σ σ' → (∀ j, j < c → σ'.1 3 j = nI (itr K W c tb m g j)) → (∀ j, c ≤ j → σ'.1 3 j = σ.1 3 j) → σ'.1 0 47 = 0 → post (nI (cnD (itr K W c tb m g) g c)) σ') : G_M_step_22 l v (n + 1) post σ (nI m) 0 := by
  have hK := hR.2.1
  have cntl : ∀ τ, sX (fun k j => k = 3 ∨ k = 4 ∨ k = 29 ∨ (k = 0 ∧ j = 47)) σ τ → (∀ j, j < c → τ.1 3 j = nI (itr K W c tb m g j)) → (∀ j, c ≤ j → τ.1 3 j = σ.1 3 j) → (∀ j, j < c → τ.1 29 j = nI (g j)) → ∀ i, i ≤ c → G_M_step_69 l v (n + 1) post τ (nI (cnD (itr K W c tb m g) g i)) (nI i) := by
    intro τ hX h1 h2 h3
    have ecτ : τ.1 0 7 = nI c := (hX 0 7 (by omega)).1.trans ec
    refine dn ?_ ?_
    · exact T_M_step_69 (br_t (by rw [ecτ]; exact nI_le (Nat.le_refl c) (by omega)) (hp _ (hX.I (by omega)) (fun j hj => by rw [pI_k (by decide)]; exact h1 j hj) (fun j hj => by rw [pI_k (by decide)]; exact h2 j hj) pI_eq))
    · intro i hi ih
      have q1 := itr_lt (c := c) hR hc1 hg m i hi
      have q2 := hg i hi
      refine T_M_step_69 (br_f (by rw [ecτ]; exact nI_ge hi (by omega)) ⟨vp_in_nI (by omega) (by decide), vp_in_nI (by omega) (by decide), ?_⟩)
      rw [nI_clamp (by omega), h1 i hi, h3 i hi]
      have ih' : G_M_step_69 l v (n + 1) post τ (nI (cnD (itr K W c tb m g) g i + (if itr K W c tb m g i = g i then 0 else 1))) (nI (i + 1)) := ih
      refine ⟨fun h => T_M_step_99 ?_, fun h => T_M_step_99 ?_⟩
      · rw [if_neg (fun q => h (by rw [q]))] at ih'
        rw [nI_1, nI_1]; exact ih'
      · rw [if_pos ((nI_nat (by omega) (by omega)).mp h)] at ih'
        rw [nI_1]; exact ih'
  have loop : ∀ i, i ≤ m → ∀ τ, sX (fun k j => k = 3 ∨ k = 4 ∨ k = 29 ∨ (k = 0 ∧ j = 47)) σ τ → (∀ j, j < c → τ.1 3 j = nI (itr K W c tb i g j)) → (∀ j, c ≤ j → τ.1 3 j = σ.1 3 j) → (∀ j, j < c → τ.1 29 j = nI (g j)) → G_M_step_50 l v (n + 1) post τ (nI m) (nI i) := by
    refine dn ?_ ?_
    · intro τ hX h1 h2 h3
      exact T_M_step_50 (br_t (nI_le (Nat.le_refl m) (by omega)) (cntl τ hX h1 h2 h3 0 (Nat.zero_le _)))
    · intro i hi ih τ hX h1 h2 h3
      refine T_M_step_50 (br_f (nI_ge hi (by omega)) ?_)
      have hCτ : mR τ K W tb := hC.kept hX (fun _ _ => by omega) (fun _ => by omega)
      refine k_turn hR hCτ hc1 hc2 ((hX 0 7 (by omega)).1.trans ec) h1 (itr_lt hR hc1 hg i) (fun τ' hX' g1 g2 => ?_)
      rw [nI_1]
      exact ih τ' (hX.tr (hX'.mono (fun k j h => by omega))) g1 (fun j hj => (g2 j hj).trans (h2 j hj)) (fun j hj => (hX' 29 j (by omega)).1.trans (h3 j hj))
  have copy : ∀ i, i ≤ c → ∀ τ, sX (fun k _ => k = 29) σ τ → (∀ j, j < i → τ.1 29 j = nI (g j)) → G_M_step_22 l v (n + 1) post τ (nI m) (nI i) := by
    refine dn ?_ ?_
    · intro τ hX h1
      have ecτ : τ.1 0 7 = nI c := (hX 0 7 (by omega)).1.trans ec
      exact T_M_step_22 (br_t (by rw [ecτ]; exact nI_le (Nat.le_refl c) (by omega)) (loop 0 (Nat.zero_le _) τ (hX.mono (fun k j h => by omega)) (fun j hj => (hX 3 j (by omega)).1.trans (eg j hj)) (fun j hj => (hX 3 j (by omega)).1) h1))
    · intro i hi ih τ hX h1
      have ecτ : τ.1 0 7 = nI c := (hX 0 7 (by omega)).1.trans ec
      refine T_M_step_22 (br_f (by rw [ecτ]; exact nI_ge hi (by omega)) ⟨vp_in_nI (by omega) (by decide), vp_in_nI (by omega) (by decide), ?_⟩)
      rw [nI_clamp (by omega), nI_1]
      refine ih _ (hX.I rfl) (fun j hj => ?_)
      by_cases hji : j = i
      · subst hji; rw [pI_eq, (hX 3 j (by omega)).1]; exact eg j hi
      · rw [pI_j hji]; exact h1 j (by omega)
  exact copy 0 (Nat.zero_le _) σ sX.rf (fun j hj => absurd hj (Nat.not_lt_zero j))
end K4s
