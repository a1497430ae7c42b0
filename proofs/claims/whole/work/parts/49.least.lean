/-! The least row of cells that the walk from b spells. -/
noncomputable def lz (P : Nat → Prop) : Nat := Classical.epsilon (fun k => P k ∧ ∀ j, j < k → ¬ P j)
theorem lz_spec {P : Nat → Prop} (h : ∃ k, P k) : P (lz P) ∧ ∀ j, j < lz P → ¬ P j := Classical.epsilon_spec (pk_least P h)
def pE (K W c : Nat) (tb g : Nat → Nat) (b t x z : Nat) : Prop := z < K ∧ tb (x * K + z) = dd W c g t ∧ bS K W c tb g b (c - 1 - t) ((x * K + z) % K ^ (W - 1))
noncomputable def nE (K W c : Nat) (tb g : Nat → Nat) (b : Nat) : Nat → Nat
  | 0 => b
  | t + 1 => (nE K W c tb g b t * K + lz (pE K W c tb g b t (nE K W c tb g b t))) % K ^ (W - 1)
noncomputable def eE (K W c : Nat) (tb g : Nat → Nat) (b i : Nat) : Nat := if i < W - 1 then b / K ^ (W - 2 - i) % K else lz (pE K W c tb g b (i - (W - 1)) (nE K W c tb g b (i - (W - 1))))
theorem pk_dig {K : Nat} (hK : 0 < K) : ∀ m b, b < K ^ m → pk K (fun i => b / K ^ (m - 1 - i) % K) m = b
  | 0, b, h => by simp at h; subst h; rfl
  | m + 1, b, h => by
    show pk K (fun i => b / K ^ (m + 1 - 1 - i) % K) m * K + b / K ^ (m + 1 - 1 - m) % K = b
    have h1 : b / K < K ^ m := by
      rw [Nat.pow_succ, Nat.mul_comm] at h
      exact Nat.div_lt_of_lt_mul h
    have e1 : pk K (fun i => b / K ^ (m + 1 - 1 - i) % K) m = pk K (fun i => (b / K) / K ^ (m - 1 - i) % K) m := by
      refine pk_congr m (fun i hi => ?_)
      rw [Nat.div_div_eq_div_mul, ← Nat.pow_succ', show (m - 1 - i).succ = m + 1 - 1 - i by omega]
    rw [e1, pk_dig hK m (b / K) h1, show m + 1 - 1 - m = 0 by omega, Nat.pow_zero, Nat.div_one, Nat.mul_comm]
    exact Nat.div_add_mod b K
theorem pk_inj {K : Nat} {f h : Nat → Nat} : ∀ m, (∀ i, i < m → f i < K) → (∀ i, i < m → h i < K) → pk K f m = pk K h m → ∀ i, i < m → f i = h i
  | 0, _, _, _, i, hi => absurd hi (Nat.not_lt_zero i)
  | m + 1, hf, hh, e, i, hi => by
    have e' : pk K f m * K + f m = pk K h m * K + h m := e
    have a1 := hf m (by omega)
    have a2 := hh m (by omega)
    have hK : 0 < K := by omega
    have b1 : (pk K f m * K + f m) % K = f m := by rw [Nat.mul_comm, Nat.mul_add_mod, Nat.mod_eq_of_lt a1]
    have b2 : (pk K h m * K + h m) % K = h m := by rw [Nat.mul_comm, Nat.mul_add_mod, Nat.mod_eq_of_lt a2]
    have c1 : f m = h m := by rw [← b1, ← b2, e']
    have c2 : pk K f m = pk K h m := by
      rw [c1] at e'
      exact Nat.eq_of_mul_eq_mul_right hK (by omega)
    by_cases him : i = m
    · subst him; exact c1
    · exact pk_inj m (fun j hj => hf j (by omega)) (fun j hj => hh j (by omega)) c2 i (by omega)
section K9p
variable {K W c b : Nat} {tb g : Nat → Nat}
theorem nE_ok (hR : okR K W tb) (hb : b < K ^ (W - 1)) (hS : bS K W c tb g b c b) : ∀ t, t ≤ c → bS K W c tb g b (c - t) (nE K W c tb g b t) := by
  intro t
  induction t with
  | zero => intro _; exact hS
  | succ t ih =>
    intro ht
    have h1 := ih (by omega)
    rw [show c - t = (c - 1 - t) + 1 by omega] at h1
    obtain ⟨u, hu, e1, e2, e3⟩ := h1
    rw [show c - 1 - (c - 1 - t) = t by omega] at e2
    have hex : ∃ z, pE K W c tb g b t (nE K W c tb g b t) z := by
      refine ⟨u % K, Nat.mod_lt _ (by have := hR.1; omega), ?_⟩
      have e4 : nE K W c tb g b t * K + u % K = u := by
        rw [← e1, Nat.mul_comm]; exact Nat.div_add_mod u K
      rw [e4]
      exact ⟨e2, e3⟩
    have h2 := (lz_spec hex).1
    rw [show c - (t + 1) = c - 1 - t by omega]
    exact h2.2.2
theorem lE_ok (hR : okR K W tb) (hb : b < K ^ (W - 1)) (hS : bS K W c tb g b c b) {t : Nat} (ht : t < c) : pE K W c tb g b t (nE K W c tb g b t) (eE K W c tb g b (W - 1 + t)) ∧ ∀ z, z < eE K W c tb g b (W - 1 + t) → ¬ pE K W c tb g b t (nE K W c tb g b t) z := by
  have h1 := nE_ok hR hb hS t (by omega)
  rw [show c - t = (c - 1 - t) + 1 by omega] at h1
  obtain ⟨u, hu, e1, e2, e3⟩ := h1
  rw [show c - 1 - (c - 1 - t) = t by omega] at e2
  have hex : ∃ z, pE K W c tb g b t (nE K W c tb g b t) z := by
    refine ⟨u % K, Nat.mod_lt _ (by have := hR.1; omega), ?_⟩
    have e4 : nE K W c tb g b t * K + u % K = u := by
      rw [← e1, Nat.mul_comm]; exact Nat.div_add_mod u K
    rw [e4]
    exact ⟨e2, e3⟩
  have e5 : eE K W c tb g b (W - 1 + t) = lz (pE K W c tb g b t (nE K W c tb g b t)) := by
    unfold eE
    rw [if_neg (by omega), show W - 1 + t - (W - 1) = t by omega]
  rw [e5]
  exact lz_spec hex
theorem eE_lt (hR : okR K W tb) (hb : b < K ^ (W - 1)) (hS : bS K W c tb g b c b) : ∀ i, i < W - 1 + c → eE K W c tb g b i < K := by
  intro i hi
  by_cases h : i < W - 1
  · unfold eE
    rw [if_pos h]
    exact Nat.mod_lt _ (by have := hR.1; omega)
  · have := (lE_ok hR hb hS (t := i - (W - 1)) (by omega)).1.1
    rw [show W - 1 + (i - (W - 1)) = i by omega] at this
    exact this
theorem nE_s (hR : okR K W tb) {t : Nat} : nE K W c tb g b (t + 1) = (nE K W c tb g b t * K + eE K W c tb g b (W - 1 + t)) % K ^ (W - 1) := by
  show (nE K W c tb g b t * K + lz (pE K W c tb g b t (nE K W c tb g b t))) % K ^ (W - 1) = _
  have e5 : eE K W c tb g b (W - 1 + t) = lz (pE K W c tb g b t (nE K W c tb g b t)) := by
    unfold eE
    rw [if_neg (by omega), show W - 1 + t - (W - 1) = t by omega]
  rw [e5]
theorem nE_lt (hR : okR K W tb) (hb : b < K ^ (W - 1)) : ∀ t, nE K W c tb g b t < K ^ (W - 1)
  | 0 => hb
  | t + 1 => Nat.mod_lt _ (pw_pos hR.1)
theorem nE_pk (hR : okR K W tb) (hb : b < K ^ (W - 1)) (hS : bS K W c tb g b c b) : ∀ t, t ≤ c → pk K (fun i => eE K W c tb g b (t + i)) (W - 1) = nE K W c tb g b t := by
  intro t
  have hW1 := hR.2.2.1
  induction t with
  | zero =>
    intro _
    have h1 := pk_dig (K := K) (by have := hR.1; omega) (W - 1) b hb
    refine Eq.trans (pk_congr (W - 1) (fun i hi => ?_)) h1
    show eE K W c tb g b (0 + i) = _
    unfold eE
    rw [if_pos (by omega), show W - 2 - (0 + i) = W - 1 - 1 - i by omega]
  | succ t ih =>
    intro ht
    rw [nE_s hR, ← ih (by omega)]
    have e1 : pk K (fun i => eE K W c tb g b (t + i)) (W - 1) * K + eE K W c tb g b (W - 1 + t) = pk K (fun i => eE K W c tb g b (t + i)) (W - 1 + 1) := by
      show _ = pk K (fun i => eE K W c tb g b (t + i)) (W - 1) * K + eE K W c tb g b (t + (W - 1))
      rw [Nat.add_comm (W - 1) t]
    have h1 : pk K (fun j => eE K W c tb g b (t + (j + 1))) (W - 1) < K ^ (W - 1) := pk_lt' (W - 1) (fun j hj => eE_lt hR hb hS _ (by omega))
    rw [e1, pk_head, Nat.mul_comm, Nat.mul_add_mod, Nat.mod_eq_of_lt h1]
    refine pk_congr (W - 1) (fun i _ => ?_)
    show eE K W c tb g b (t + 1 + i) = eE K W c tb g b (t + (i + 1))
    rw [show t + 1 + i = t + (i + 1) by omega]
theorem eE_back (hR : okR K W tb) (hb : b < K ^ (W - 1)) (hS : bS K W c tb g b c b) : ∀ i, i < W - 1 → eE K W c tb g b (c + i) = eE K W c tb g b i := by
  have h1 := nE_ok hR hb hS c (Nat.le_refl _)
  rw [Nat.sub_self] at h1
  have h2 : nE K W c tb g b c = b := h1
  have e1 := nE_pk hR hb hS c (Nat.le_refl _)
  have e2 := nE_pk hR hb hS 0 (Nat.zero_le _)
  rw [h2] at e1
  have e3 : nE K W c tb g b 0 = b := rfl
  rw [e3] at e2
  intro i hi
  have := pk_inj (W - 1) (fun i hi => eE_lt hR hb hS _ (by omega)) (fun i hi => eE_lt hR hb hS _ (by omega)) (e1.trans e2.symm) i hi
  rw [Nat.zero_add] at this
  exact this
theorem eE_mod (hR : okR K W tb) (hc : 1 ≤ c) (hb : b < K ^ (W - 1)) (hS : bS K W c tb g b c b) : ∀ m, m < W - 1 + c → eE K W c tb g b m = eE K W c tb g b (m % c) := by
  intro m
  induction m using Nat.strongRecOn with
  | _ m ih =>
    intro hm
    by_cases h : m < c
    · rw [Nat.mod_eq_of_lt h]
    · have h1 := eE_back hR hb hS (m - c) (by omega)
      rw [show c + (m - c) = m by omega] at h1
      rw [h1, ih (m - c) (by omega) (by omega), Nat.mod_eq_sub_mod (a := m) (b := c) (by omega)]
end K9p
section K9s
variable {l : Launch} {v : gs_V} {n : Nat} {σ : gs_S} {K W c b : Nat} {tb g : Nat → Nat}
theorem k_leastCell {post : Int32 → gs_S → Prop} {x t m : Nat} (hw : cW σ K W c tb g) (hb : b < K ^ (W - 1)) (ho : ∀ t, t ≤ c → ∀ y, y < 64 → (bt (σ.2.1 38 t) y = true ↔ bS K W c tb g b (c - t) y)) (hx : x < K ^ (W - 1)) (ht : t < c) (hm : pE K W c tb g b t x m ∧ ∀ z, z < m → ¬ pE K W c tb g b t x z) (hp : post (nI m) σ) : gM l v lyC 42 me_H_leastCell (n + 3) [.ref (v.2.2 37), .int (nI x), .int (nI t)] σ (qI v lyC 42 post) := by
  have hw0 := hw
  obtain ⟨hR, hC, hF, hSo, hc1, hc2, ec, eg, hg⟩ := hw
  have hN := pw_le1 hR.2.1 hR.2.2.2.1
  have hKW := pw_le hR.2.1 hR.2.2.2.1
  have hNp := pw_pos (W := W - 1) hR.1
  have hK := hR.2.1
  have hmK := hm.1.1
  have hwin : ∀ z, z < K → x * K + z < K ^ W := fun z hz => by
    rw [pw_s hR.2.2.1]
    have : (x + 1) * K ≤ K ^ (W - 1) * K := Nat.mul_le_mul_right K hx
    rw [Nat.add_mul] at this
    omega
  refine E_H_leastCell (T_H_leastCell_0 ?_)
  refine dn0 (N := m) (P := fun z => G_H_leastCell_2 l v (n + 2) post σ (nI x) (nI t) (nI z)) ?_ ?_
  · have h1 := hwin m hmK
    have h2 : (x * K + m) % K ^ (W - 1) < K ^ (W - 1) := Nat.mod_lt _ hNp
    refine T_H_leastCell_2 (br_f (by rw [hC.1]; exact nI_ge hmK (by omega)) ?_)
    rw [nI_1, hC.1, pk_mul, nI_add, nI_clamp (by omega)]
    refine ⟨vp_in_nI (by omega) (by decide), k_R_end hR hC (by omega) ?_⟩
    rw [jU_bit _ (show (x * K + m) % K ^ (W - 1) < 64 by omega)]
    have e := (ho (t + 1) (by omega) _ (show (x * K + m) % K ^ (W - 1) < 64 by omega)).mpr (by rw [show c - (t + 1) = c - 1 - t by omega]; exact hm.1.2.2)
    refine br_f (by rw [e]; decide) (T_H_leastCell_56 (br_f (by decide) ⟨vp_in_nI (by omega) (by decide), k_due hw0 (by omega) ?_⟩))
    rw [nI_clamp (by omega), hC.2.2.2.2 _ h1, hm.1.2.1]
    exact ⟨fun q => absurd rfl q, fun _ => hp⟩
  · intro z hz ih
    have hzK : z < K := by omega
    have h1 := hwin z hzK
    have h2 : (x * K + z) % K ^ (W - 1) < K ^ (W - 1) := Nat.mod_lt _ hNp
    refine T_H_leastCell_2 (br_f (by rw [hC.1]; exact nI_ge hzK (by omega)) ?_)
    rw [nI_1, hC.1, pk_mul, nI_add, nI_clamp (by omega)]
    refine ⟨vp_in_nI (by omega) (by decide), k_R_end hR hC (by omega) ?_⟩
    rw [jU_bit _ (show (x * K + z) % K ^ (W - 1) < 64 by omega)]
    have e := ho (t + 1) (by omega) _ (show (x * K + z) % K ^ (W - 1) < 64 by omega)
    rw [show c - (t + 1) = c - 1 - t by omega] at e
    refine ⟨fun h => T_H_leastCell_56 (br_t rfl (T_H_leastCell_83 (by rw [nI_1]; exact ih))), fun h => T_H_leastCell_56 (br_f (by decide) ⟨vp_in_nI (by omega) (by decide), k_due hw0 (by omega) ?_⟩)⟩
    have hb2 : bt (σ.2.1 38 (t + 1)) ((x * K + z) % K ^ (W - 1)) = true := by
      cases q : bt (σ.2.1 38 (t + 1)) ((x * K + z) % K ^ (W - 1)) with
      | false => exact absurd q h
      | true => rfl
    rw [nI_clamp (by omega), hC.2.2.2.2 _ h1]
    refine ⟨fun _ => T_H_leastCell_83 (by rw [nI_1]; exact ih), fun q => ?_⟩
    exfalso
    have ht1 := hR.2.2.2.2 _ h1
    have ht2 := dd_lt (W := W) hc1 hg t
    exact hm.2 z hz ⟨hzK, (nI_nat (by omega) (by omega)).mp q, e.mp hb2⟩
theorem k_trace {post : gs_S → Prop} (hw : cW σ K W c tb g) (hb : b < K ^ (W - 1)) (hS : bS K W c tb g b c b) (ho : ∀ t, t ≤ c → ∀ y, y < 64 → (bt (σ.2.1 38 t) y = true ↔ bS K W c tb g b (c - t) y)) (hp : ∀ σ', sX (fun k _ => k = 39) σ σ' → (∀ r, r < c → σ'.1 39 r = nI (eE K W c tb g b r)) → post σ') : gM l v lyC 42 me_H_trace (n + 4) [.ref (v.2.2 37), .int (nI b)] σ (qV v lyC 42 post) := by
  have hw0 := hw
  obtain ⟨hR, hC, hF, hSo, hc1, hc2, ec, eg, hg⟩ := hw
  have hN := pw_le1 hR.2.1 hR.2.2.2.1
  have hKW := pw_le hR.2.1 hR.2.2.2.1
  have hK := hR.2.1
  have hW := hR.2.2.2.1
  have hW1 := hR.2.2.1
  have loop : ∀ t, t ≤ c → ∀ τ, sX (fun k _ => k = 39) σ τ → (∀ t', t' < t → τ.1 39 ((t' + W - 1) % c) = nI (eE K W c tb g b ((t' + W - 1) % c))) → G_H_trace_4 l v (n + 3) post τ (nI (nE K W c tb g b t)) (nI t) := by
    refine dn ?_ ?_
    · intro τ hX hI
      refine T_H_trace_4 (br_t (by rw [(hX 10 1 (by omega)).1, ec]; exact nI_le (Nat.le_refl c) (by omega)) (hp τ hX (fun r hr => ?_)))
      have h1 := hI ((r + 4 * c - (W - 1)) % c) (Nat.mod_lt _ hc1)
      have e1 : ((r + 4 * c - (W - 1)) % c + W - 1) % c = r := by
        rw [show (r + 4 * c - (W - 1)) % c + W - 1 = (r + 4 * c - (W - 1)) % c + (W - 1) by omega, Nat.mod_add_mod, show r + 4 * c - (W - 1) + (W - 1) = r + c * 4 by omega, Nat.add_mul_mod_self_left, Nat.mod_eq_of_lt hr]
      rw [e1] at h1
      exact h1
    · intro t ht ih τ hX hI
      have hwτ : cW τ K W c tb g := hw0.kept hX (fun k j _ _ => by omega)
      have hCτ := hwτ.2.1
      have hx := nE_lt (c := c) (g := g) hR hb t
      have hle := lE_ok hR hb hS ht
      have hzK := hle.1.1
      refine T_H_trace_4 (br_f (by rw [(hX 10 1 (by omega)).1, ec]; exact nI_ge ht (by omega)) ?_)
      refine k_leastCell hwτ hb (fun t ht y hy => by rw [(hX 38 t (by omega)).2.1]; exact ho t ht y hy) hx ht hle ?_
      have e1 : nI t + τ.1 4 7 - 1 = nI (t + W - 1) := by
        rw [hCτ.2.1, nI_add]
        exact pk_sub (a := t + W) (b := 1) (by omega)
      have e2 : τ.1 10 1 = nI c := (hX 10 1 (by omega)).1.trans ec
      have hm : (t + W - 1) % c < c := Nat.mod_lt _ hc1
      rw [e1, e2, jR_n (by omega) (by omega) (by omega), nI_clamp (by omega), hCτ.1, pk_mul, nI_add]
      refine ⟨nI_ne0 (by omega) (by omega), vp_in_nI (by omega) (by decide), ?_⟩
      have hX' : sX (fun k _ => k = 39) σ (gs_pI τ 39 ((t + W - 1) % c) (nI (eE K W c tb g b (W - 1 + t)))) := hX.I rfl
      have hC' : cR (gs_pI τ 39 ((t + W - 1) % c) (nI (eE K W c tb g b (W - 1 + t)))) K W tb := hC.kept hX' (fun _ => by omega) (fun _ => by omega)
      have hlt : nE K W c tb g b t * K + eE K W c tb g b (W - 1 + t) < K ^ W := by
        rw [pw_s hW1]
        have : (nE K W c tb g b t + 1) * K ≤ K ^ (W - 1) * K := Nat.mul_le_mul_right K hx
        rw [Nat.add_mul] at this
        omega
      refine k_R_end hR hC' (by omega) ?_
      rw [nI_1, ← nE_s hR]
      refine ih _ hX' (fun t' ht' => ?_)
      have em : ∀ t', t' < c → eE K W c tb g b (W - 1 + t') = eE K W c tb g b ((t' + W - 1) % c) := fun t' h => by
        rw [eE_mod hR hc1 hb hS _ (by omega), show W - 1 + t' = t' + W - 1 by omega]
      by_cases hq : (t' + W - 1) % c = (t + W - 1) % c
      · rw [hq, pI_eq, em t ht]
      · rw [pI_j hq]
        rcases Nat.lt_or_ge t' t with h9 | h9
        · exact hI t' h9
        · exfalso; apply hq; rw [show t' = t by omega]
  exact E_H_trace (T_H_trace_0 (loop 0 (Nat.zero_le _) σ sX.rf (fun t' h => absurd h (Nat.not_lt_zero t'))))
end K9s
