/-! What stays: sX S σ σ': outside S nothing has changed. The ring's step, counting. -/
def sX (S : Nat → Nat → Prop) (σ σ' : gs_S) : Prop := ∀ k j, ¬ S k j → σ'.1 k j = σ.1 k j ∧ σ'.2.1 k j = σ.2.1 k j ∧ σ'.2.2 k j = σ.2.2 k j
theorem sX.rf {S : Nat → Nat → Prop} {σ : gs_S} : sX S σ σ := fun _ _ _ => ⟨rfl, rfl, rfl⟩
theorem sX.tr {S : Nat → Nat → Prop} {σ σ' σ'' : gs_S} (h1 : sX S σ σ') (h2 : sX S σ' σ'') : sX S σ σ'' := fun k j h => by
  obtain ⟨a, b, c⟩ := h1 k j h
  obtain ⟨a', b', c'⟩ := h2 k j h
  exact ⟨a'.trans a, b'.trans b, c'.trans c⟩
theorem sX.mono {S S' : Nat → Nat → Prop} {σ σ' : gs_S} (h : sX S σ σ') (hs : ∀ k j, S k j → S' k j) : sX S' σ σ' := fun k j hn => h k j (fun q => hn (hs k j q))
theorem sX.I {S : Nat → Nat → Prop} {σ σ' : gs_S} {k j : Nat} {x : Int32} (h : sX S σ σ') (hs : S k j) : sX S σ (gs_pI σ' k j x) := fun k' j' hn => by
  obtain ⟨a, b, c⟩ := h k' j' hn
  refine ⟨?_, b, c⟩
  by_cases hk : k' = k
  · subst hk
    by_cases hj : j' = j
    · subst hj; exact absurd hs hn
    · rw [pI_j hj]; exact a
  · rw [pI_k hk]; exact a
theorem sX.L {S : Nat → Nat → Prop} {σ σ' : gs_S} {k j : Nat} {x : Int64} (h : sX S σ σ') (hs : S k j) : sX S σ (gs_pL σ' k j x) := fun k' j' hn => by
  obtain ⟨a, b, c⟩ := h k' j' hn
  refine ⟨a, ?_, c⟩
  by_cases hk : k' = k
  · subst hk
    by_cases hj : j' = j
    · subst hj; exact absurd hs hn
    · rw [pL_row]
      show (if j' = j then x else σ'.2.1 k' j') = _
      rw [if_neg hj]; exact b
  · rw [pL_k hk]; exact b
theorem sX.A {S : Nat → Nat → Prop} {σ σ' : gs_S} {k : Nat} {f : Nat → Int32} (h : sX S σ σ') (hs : ∀ j, S k j) : sX S σ (gs_pA σ' k f) := fun k' j' hn => by
  obtain ⟨a, b, c⟩ := h k' j' hn
  refine ⟨?_, b, c⟩
  by_cases hk : k' = k
  · subst hk; exact absurd (hs j') hn
  · rw [pA_k hk]; exact a
theorem sX.B {S : Nat → Nat → Prop} {σ σ' : gs_S} {k : Nat} {f : Nat → Int64} (h : sX S σ σ') (hs : ∀ j, S k j) : sX S σ (gs_pB σ' k f) := fun k' j' hn => by
  obtain ⟨a, b, c⟩ := h k' j' hn
  refine ⟨a, ?_, c⟩
  by_cases hk : k' = k
  · subst hk; exact absurd (hs j') hn
  · rw [pB_k hk]; exact b
theorem sX.R {S : Nat → Nat → Prop} {σ σ' : gs_S} {k j : Nat} {x : Nat} (h : sX S σ σ') (hs : S k j) : sX S σ (gs_pR σ' k j x) := fun k' j' hn => by
  obtain ⟨a, b, c⟩ := h k' j' hn
  refine ⟨a, b, ?_⟩
  show va_up σ'.2.2 k (va_up (σ'.2.2 k) j x) k' j' = _
  by_cases hk : k' = k
  · subst hk
    rw [gs_up1]
    by_cases hj : j' = j
    · subst hj; exact absurd hs hn
    · rw [gs_upn hj]; exact c
  · rw [gs_upn hk]; exact c
theorem cR.kept {σ σ' : gs_S} {K W : Nat} {tb : Nat → Nat} {S : Nat → Nat → Prop} (h : cR σ K W tb) (hX : sX S σ σ') (h4 : ∀ j, ¬ S 4 j) (h5 : ∀ j, ¬ S 5 j) : cR σ' K W tb := by
  obtain ⟨a, b, c, d, e⟩ := h
  exact ⟨(hX 4 6 (h4 6)).1.trans a, (hX 4 7 (h4 7)).1.trans b, (hX 4 8 (h4 8)).1.trans c, (hX 4 9 (h4 9)).1.trans d, fun j hj => (hX 5 j (h5 j)).1.trans (e j hj)⟩
-- packed cells
def pk (K : Nat) (f : Nat → Nat) : Nat → Nat
  | 0 => 0
  | j + 1 => pk K f j * K + f j
theorem pk_lt' {K : Nat} {f : Nat → Nat} : ∀ m, (∀ j, j < m → f j < K) → pk K f m < K ^ m
  | 0, _ => by simp [pk]
  | m + 1, h => by
    have ih := pk_lt' m (fun j hj => h j (by omega))
    have hf := h m (by omega)
    show pk K f m * K + f m < K ^ (m + 1)
    rw [Nat.pow_succ]
    have : (pk K f m + 1) * K ≤ K ^ m * K := Nat.mul_le_mul_right K ih
    rw [Nat.add_mul] at this
    omega
theorem pk_congr {K : Nat} {f g : Nat → Nat} : ∀ m, (∀ j, j < m → f j = g j) → pk K f m = pk K g m
  | 0, _ => rfl
  | m + 1, h => by
    show pk K f m * K + f m = pk K g m * K + g m
    rw [pk_congr m (fun j hj => h j (by omega)), h m (by omega)]
theorem pk_head {K : Nat} {f : Nat → Nat} : ∀ m, pk K f (m + 1) = f 0 * K ^ m + pk K (fun j => f (j + 1)) m
  | 0 => by simp [pk]
  | m + 1 => by
    show pk K f (m + 1) * K + f (m + 1) = _
    rw [pk_head m]
    show _ = f 0 * K ^ (m + 1) + (pk K (fun j => f (j + 1)) m * K + f (m + 1))
    rw [Nat.pow_succ, Nat.add_mul, Nat.mul_assoc]
    omega
theorem pk_roll {K m : Nat} {f : Nat → Nat} (h : ∀ j, j < m + 1 → f j < K) (x : Nat) (hx : f (m + 1) = x) : pk K f (m + 1) % K ^ m * K + x = pk K (fun j => f (j + 1)) (m + 1) := by
  have h1 : pk K (fun j => f (j + 1)) m < K ^ m := pk_lt' m (fun j hj => h (j + 1) (by omega))
  rw [pk_head, Nat.mul_comm (f 0) (K ^ m), Nat.mul_add_mod, Nat.mod_eq_of_lt h1, ← hx]
  rfl
-- the ring's next row
def nx (K W c : Nat) (tb g : Nat → Nat) (i : Nat) : Nat := tb (pk K (fun j => g ((i + 4 * c - (W - 1) / 2 + j) % c)) W)
def itr (K W c : Nat) (tb : Nat → Nat) : Nat → (Nat → Nat) → Nat → Nat
  | 0, g => g
  | m + 1, g => nx K W c tb (itr K W c tb m g)
theorem nx_lt {K W c : Nat} {tb g : Nat → Nat} (hR : okR K W tb) (hc : 1 ≤ c) (hg : ∀ j, j < c → g j < K) (i : Nat) : nx K W c tb g i < K :=
  hR.2.2.2.2 _ (pk_lt' W (fun j _ => hg _ (Nat.mod_lt _ hc)))
theorem nx_congr {K W c : Nat} {tb g h : Nat → Nat} (hc : 1 ≤ c) (e : ∀ j, j < c → g j = h j) (i : Nat) : nx K W c tb g i = nx K W c tb h i := by
  unfold nx
  rw [pk_congr W (fun j _ => e _ (Nat.mod_lt _ hc))]
theorem itr_lt {K W c : Nat} {tb g : Nat → Nat} (hR : okR K W tb) (hc : 1 ≤ c) (hg : ∀ j, j < c → g j < K) : ∀ m j, j < c → itr K W c tb m g j < K
  | 0, j, hj => hg j hj
  | m + 1, j, hj => nx_lt hR hc (itr_lt hR hc hg m) j
section K3s
variable {l : Launch} {v : gs_V} {n : Nat} {σ : gs_S}
theorem k_stepOnce {post : gs_S → Prop} {K W c : Nat} {tb g : Nat → Nat} (hR : okR K W tb) (hC : cR σ K W tb) (hc1 : 1 ≤ c) (hc2 : c ≤ 64) (ec : σ.1 10 1 = nI c) (eg : ∀ j, j < c → σ.1 11 j = nI (g j)) (hg : ∀ j, j < c → g j < K)
    (hp : ∀ σ', sX (fun k _ => k = 11 ∨ k = 12) σ σ' → (∀ j, j < c → σ'.1 11 j = nI (nx K W c tb g j)) → (∀ j, c ≤ j → σ'.1 11 j = σ.1 11 j) → post σ') : gM l v lyC 42 me_C_stepOnce (n + 2) [.ref (v.2.2 10)] σ (qV v lyC 42 post) := by
  have hK := hR.2.1
  have hW := hR.2.2.2.1
  have hW1 := hR.2.2.1
  have hKW := pw_le hK hW
  have eW : nI W - nI ((W - 1) / 2) = nI (W - (W - 1) / 2) := pk_sub (by omega)
  have hwin : ∀ i, pk K (fun j => g ((i + 4 * c - (W - 1) / 2 + j) % c)) W < K ^ W := fun i => pk_lt' W (fun j _ => hg _ (Nat.mod_lt _ hc1))
  -- the loop over the cells
  have loop : ∀ i, i ≤ c → ∀ τ, sX (fun k _ => k = 12) σ τ → (∀ j, j < i → τ.1 12 j = nI (nx K W c tb g j)) → G_C_stepOnce_71 l v (n + 1) post τ (nI (pk K (fun j => g ((i + 4 * c - (W - 1) / 2 + j) % c)) W)) (nI (W - (W - 1) / 2)) (nI i) := by
    refine dn ?_ ?_
    · intro τ hX hm
      have ecτ : τ.1 10 1 = nI c := (hX 10 1 (by omega)).1.trans ec
      refine T_C_stepOnce_71 (br_t (by rw [ecτ]; exact nI_le (Nat.le_refl c) (by omega)) ⟨by rw [ecτ, nI_clamp (by omega)]; exact ⟨nI_pos (by omega), hc2⟩, ?_⟩)
      rw [ecτ, nI_clamp (by omega)]
      refine hp _ ((hX.mono (fun k j h => Or.inr h)).A (fun _ => Or.inl rfl)) (fun j hj => ?_) (fun j hj => ?_)
      · rw [pA_row, pk_cpy_in (by omega) (by omega), Nat.sub_zero, Nat.zero_add]
        exact hm j hj
      · rw [pA_row, pk_cpy_out (Or.inr (by omega))]
        exact (hX 11 j (by omega)).1
    · intro i hi ih τ hX hm
      have ecτ : τ.1 10 1 = nI c := (hX 10 1 (by omega)).1.trans ec
      have hCτ : cR τ K W tb := hC.kept hX (fun _ => by omega) (fun _ => by omega)
      have hw := hwin i
      refine T_C_stepOnce_71 (br_f (by rw [ecτ]; exact nI_ge hi (by omega)) ⟨vp_in_nI (by omega) (by decide), vp_in_nI (by omega) (by decide), ?_⟩)
      rw [nI_clamp (by omega), nI_clamp (by omega)]
      have hX' : sX (fun k _ => k = 12) σ (gs_pI τ 12 i (τ.1 5 (pk K (fun j => g ((i + 4 * c - (W - 1) / 2 + j) % c)) W))) := hX.I rfl
      have ec' := (hX' 10 1 (by omega)).1.trans ec
      have hC' : cR (gs_pI τ 12 i (τ.1 5 (pk K (fun j => g ((i + 4 * c - (W - 1) / 2 + j) % c)) W))) K W tb := hC.kept hX' (fun _ => by omega) (fun _ => by omega)
      refine k_R_end hR hC' (by omega) ?_
      rw [ec', nI_add, jR_n (by omega) (by omega) (by omega)]
      have hmod : (i + (W - (W - 1) / 2)) % c < c := Nat.mod_lt _ hc1
      refine ⟨nI_ne0 (by omega) (by omega), vp_in_nI (by omega) (by decide), ?_⟩
      rw [nI_clamp (by omega), (hX' 11 _ (by omega)).1, eg _ hmod, hC'.1, pk_mul, nI_add, nI_1]
      have e3 : (i + (W - (W - 1) / 2)) % c = (i + 4 * c - (W - 1) / 2 + ((W - 1) + 1)) % c := by
        rw [show i + 4 * c - (W - 1) / 2 + ((W - 1) + 1) = (i + (W - (W - 1) / 2)) + c * 4 by omega, Nat.add_mul_mod_self_left]
      have e4 : pk K (fun j => g ((i + 4 * c - (W - 1) / 2 + j) % c)) W % K ^ (W - 1) * K + g ((i + (W - (W - 1) / 2)) % c) = pk K (fun j => g ((i + 1 + 4 * c - (W - 1) / 2 + j) % c)) W := by
        have h1 := pk_roll (K := K) (m := W - 1) (f := fun j => g ((i + 4 * c - (W - 1) / 2 + j) % c)) (fun j _ => hg _ (Nat.mod_lt _ hc1)) _ rfl
        rw [show W - 1 + 1 = W by omega] at h1
        rw [e3]
        simp only [show W - 1 + 1 = W by omega]
        rw [h1]
        refine pk_congr W (fun j _ => ?_)
        show g ((i + 4 * c - (W - 1) / 2 + (j + 1)) % c) = g ((i + 1 + 4 * c - (W - 1) / 2 + j) % c)
        rw [show i + 4 * c - (W - 1) / 2 + (j + 1) = i + 1 + 4 * c - (W - 1) / 2 + j by omega]
      rw [e4]
      refine ih _ hX' (fun j hj => ?_)
      by_cases hji : j = i
      · subst hji
        rw [pI_eq]
        exact hCτ.2.2.2.2 _ hw
      · rw [pI_j hji]
        exact hm j (by omega)
  refine E_C_stepOnce (T_C_stepOnce_0 ?_)
  refine dn0 (N := W) (P := fun i => G_C_stepOnce_4 l v (n + 1) post σ (nI (pk K (fun j => g ((0 + 4 * c - (W - 1) / 2 + j) % c)) i)) (nI i)) ?_ ?_
  · refine T_C_stepOnce_4 (br_t (by rw [hC.2.1]; exact nI_le (Nat.le_refl W) (by omega)) ?_)
    refine k_R_left hR hC ?_
    rw [hC.2.1, eW]
    exact loop 0 (Nat.zero_le _) σ sX.rf (fun j hj => absurd hj (Nat.not_lt_zero j))
  · intro i hi ih
    refine T_C_stepOnce_4 (br_f (by rw [hC.2.1]; exact nI_ge hi (by omega)) ?_)
    refine k_R_left hR hC ?_
    rw [ec]
    refine k_floorMod (by omega) hc1 hc2 (by omega) ?_
    have hmod : (i + 4 * c - (W - 1) / 2) % c < c := Nat.mod_lt _ hc1
    refine ⟨vp_in_nI (by omega) (by decide), ?_⟩
    rw [nI_clamp (by omega), eg _ hmod, hC.1, pk_mul, nI_add, nI_1]
    have e5 : pk K (fun j => g ((0 + 4 * c - (W - 1) / 2 + j) % c)) i * K + g ((i + 4 * c - (W - 1) / 2) % c) = pk K (fun j => g ((0 + 4 * c - (W - 1) / 2 + j) % c)) (i + 1) := by
      show _ = pk K (fun j => g ((0 + 4 * c - (W - 1) / 2 + j) % c)) i * K + g ((0 + 4 * c - (W - 1) / 2 + i) % c)
      rw [show 0 + 4 * c - (W - 1) / 2 + i = i + 4 * c - (W - 1) / 2 by omega]
    rw [e5]
    exact ih
end K3s
