/-! Orphan of the class. -/
section K19
variable {l : Launch} {v : gs_V} {n : Nat} {σ : gs_S} {K W : Nat} {tb : Nat → Nat}
theorem k_spread {post : gs_S → Prop} {X : Int64} (hR : okR K W tb) (hC : cR σ K W tb) (hF : cF σ K W tb) (hp : ∀ σ', sX (fun k _ => k = 35) σ σ' → (∀ s, s < K → σ'.2.1 35 s = nX K W tb X s) → post σ') : gM l v lyC 42 me_O_spread (n + 2) [.ref (v.2.2 31), .long X] σ (qV v lyC 42 post) := by
  have hN := pw_le1 hR.2.1 hR.2.2.2.1
  have hNp := pw_pos (W := W - 1) hR.1
  have hK := hR.2.1
  have hK2 := hR.1
  have L10 : ∀ x, x ≤ K ^ (W - 1) → ∀ τ, sX (fun k _ => k = 35) σ τ → (∀ s, s < K → ∀ y, y < 64 → (bt (τ.2.1 35 s) y = true ↔ ∃ u, u < K ^ W ∧ u / K < x ∧ bt X (u / K) = true ∧ tb u = s ∧ u % K ^ (W - 1) = y)) → G_O_spread_10 l v (n + 1) post τ X (nI x) := by
    refine dn ?_ ?_
    · intro τ hX hI
      refine T_O_spread_10 (br_t (by rw [(hX 4 9 (by omega)).1, hC.2.2.2.1]; exact nI_le (Nat.le_refl _) (by omega)) (hp τ hX (fun s hs => bt_ext (fun y hy => ?_))))
      rw [Bool.eq_iff_iff, hI s hs y hy, nX_bit hR hy]
      constructor
      · rintro ⟨u, h1, _, h2⟩; exact ⟨u, h1, h2⟩
      · rintro ⟨u, h1, h2⟩; exact ⟨u, h1, div_lt' hR h1, h2⟩
    · intro x hx ih τ hX hI
      refine T_O_spread_10 (br_f (by rw [(hX 4 9 (by omega)).1, hC.2.2.2.1]; exact nI_ge hx (by omega)) ?_)
      rw [jU_bit X (show x < 64 by omega)]
      refine ⟨fun h => T_O_spread_72 ?_, fun h => ?_⟩
      · rw [nI_1]
        refine ih τ hX (fun s hs y hy => ?_)
        rw [hI s hs y hy]
        constructor
        · rintro ⟨u, h1, h2, h3⟩; exact ⟨u, h1, by omega, h3⟩
        · rintro ⟨u, h1, h2, h3, h4⟩
          by_cases e : u / K = x
          · rw [e, h] at h3; cases h3
          · exact ⟨u, h1, by omega, h3, h4⟩
      · have h : bt X x = true := by
          cases q : bt X x with
          | false => exact absurd q h
          | true => rfl
        have L34 : ∀ c, c ≤ K → ∀ τ, sX (fun k _ => k = 35) σ τ → (∀ s, s < K → ∀ y, y < 64 → (bt (τ.2.1 35 s) y = true ↔ ∃ u, u < K ^ W ∧ (u / K < x ∨ (u / K = x ∧ s < c)) ∧ bt X (u / K) = true ∧ tb u = s ∧ u % K ^ (W - 1) = y)) → G_O_spread_34 l v (n + 1) post τ X (nI x) (nI c) := by
          refine dn ?_ ?_
          · intro τ hX hI
            refine T_O_spread_34 (br_t (by rw [(hX 4 6 (by omega)).1, hC.1]; exact nI_le (Nat.le_refl _) (by omega)) (T_O_spread_72 ?_))
            rw [nI_1]
            refine ih τ hX (fun s hs y hy => ?_)
            rw [hI s hs y hy]
            constructor
            · rintro ⟨u, h1, h2, h3⟩; exact ⟨u, h1, by omega, h3⟩
            · rintro ⟨u, h1, h2, h3⟩; exact ⟨u, h1, by omega, h3⟩
          · intro c hc ih2 τ hX hI
            have hFτ : cF τ K W tb := hF.kept hX (fun _ => by omega)
            refine T_O_spread_34 (br_f (by rw [(hX 4 6 (by omega)).1, hC.1]; exact nI_ge hc (by omega)) ⟨vp_in_nI (by omega) (by decide), k_behind (by omega) (by omega) ⟨vp_in_nI (by omega) (by decide), ?_⟩⟩)
            rw [nI_clamp (by omega), nI_1]
            refine ih2 _ (hX.L rfl) (fun s hs y hy => ?_)
            rw [pL_row]
            show bt (if s = c then _ else τ.2.1 35 s) y = true ↔ _
            by_cases e : s = c
            · rw [if_pos e, bt_or, Bool.or_eq_true, ← e, hI s hs y hy, hFτ x s y (by omega) (by omega) hy]
              constructor
              · rintro (⟨u, h1, h2, h3⟩ | ⟨u, h1, h2, h3, h4⟩)
                · exact ⟨u, h1, by omega, h3⟩
                · exact ⟨u, h1, by omega, by rw [h2]; exact h, h3, h4⟩
              · rintro ⟨u, h1, h2, h3, h4, h5⟩
                by_cases q : u / K = x
                · exact Or.inr ⟨u, h1, q, h4, h5⟩
                · exact Or.inl ⟨u, h1, by omega, h3, h4, h5⟩
            · rw [if_neg e, hI s hs y hy]
              constructor
              · rintro ⟨u, h1, h2, h3⟩; exact ⟨u, h1, by omega, h3⟩
              · rintro ⟨u, h1, h2, h3⟩; exact ⟨u, h1, by omega, h3⟩
        refine L34 0 (Nat.zero_le _) τ hX (fun s hs y hy => ?_)
        rw [hI s hs y hy]
        constructor
        · rintro ⟨u, h1, h2, h3⟩; exact ⟨u, h1, by omega, h3⟩
        · rintro ⟨u, h1, h2, h3⟩; exact ⟨u, h1, by omega, h3⟩
  refine E_O_spread (T_O_spread_0 (k_fillJ ⟨by decide, rfl⟩ (by decide) ?_))
  refine L10 0 (Nat.zero_le _) _ (sX.rf.B (fun _ => rfl)) (fun s hs y hy => ?_)
  rw [pB_row]
  show bt (if s < 4 then (0 : Int64) else _) y = true ↔ _
  rw [if_pos (by omega), bt_0]
  exact ⟨fun h => (by cases h), fun ⟨u, _, h, _⟩ => absurd h (Nat.not_lt_zero _)⟩
theorem k_meet {post : gs_S → Prop} {X : Int64} {m : Nat} {S : Nat → Int64} {x y : Int32} (hm : m < 500) (em : σ.1 31 7 = nI m) (hS : ∀ j, j < m → σ.2.1 32 j = S j) (h1 : mtb S X m = true → post σ) (h2 : ¬ mtb S X m = true → post (gs_pI (gs_pI (gs_pI (gs_pL σ 32 m X) 33 m x) 34 m y) 31 7 (nI (m + 1)))) : gM l v lyC 42 me_O_meet (n + 1) [.ref (v.2.2 31), .long X, .int x, .int y] σ (qV v lyC 42 post) := by
  refine E_O_meet (T_O_meet_0 ?_)
  have L : ∀ i, i ≤ m → (∀ j, j < i → ¬ S j = X) → G_O_meet_3 l v n post σ X x y (nI i) := by
    refine dn ?_ ?_
    · intro hI
      refine T_O_meet_3 (br_t (by rw [em]; exact nI_le (Nat.le_refl _) (by omega)) ?_)
      rw [em, nI_clamp (by omega), nI_1]
      refine ⟨vp_in_nI (by omega) (by decide), vp_in_nI (by omega) (by decide), vp_in_nI (by omega) (by decide), h2 (fun q => ?_)⟩
      obtain ⟨j, a, b⟩ := (mtb_iff _).mp q
      exact hI j a b
    · intro i hi ih hI
      refine T_O_meet_3 (br_f (by rw [em]; exact nI_ge hi (by omega)) ⟨vp_in_nI (by omega) (by decide), ?_⟩)
      rw [nI_clamp (by omega), hS i hi]
      refine ⟨fun q => ?_, fun q => h1 ((mtb_iff _).mpr ⟨i, hi, q⟩)⟩
      rw [nI_1]
      refine ih (fun j hj => ?_)
      by_cases e : j = i
      · rw [e]; exact q
      · exact hI j (by omega)
  exact L 0 (Nat.zero_le _) (fun j h => absurd h (Nat.not_lt_zero j))
theorem k_write {post : Int32 → gs_S → Prop} {fr by' : Nat → Nat} {m i s : Nat} (hm : m < 500) (hi : i < m) (hf : ∀ j, 0 < j → j < m → fr j < j) (e3 : ∀ j, 0 < j → j < m → σ.1 33 j = nI (fr j)) (e4 : ∀ j, 0 < j → j < m → σ.1 34 j = nI (by' j)) (hp : ∀ σ' z, sX (fun k _ => k = 36) σ σ' → wr fr by' i s z (σ'.1 36) → post z σ') : gM l v lyC 42 me_O_write (n + 1) [.ref (v.2.2 31), .int (nI i), .int (nI s)] σ (qI v lyC 42 post) := by
  have hcl : ∀ k, (∀ k', k' < k → 0 < ch fr k' i) → ch fr k i + k ≤ i := fun k hk => ch_le (fun j h1 h2 => hf j h1 (by omega)) k hk
  have second : ∀ d, d ≤ i → ch fr d i = 0 → (∀ k, k < d → 0 < ch fr k i) → G_O_write_32 l v n post σ (nI i) (nI s) (nI (d + 1)) := by
    intro d hd hd0 hdk
    refine T_O_write_32 ?_
    rw [show nI (d + 1) - 1 = nI d from pk_sub (a := d + 1) (b := 1) (by omega), nI_clamp (by omega)]
    refine ⟨vp_in_nI (by omega) (by decide), ?_⟩
    have L : ∀ r, r ≤ d → ∀ τ, sX (fun k _ => k = 36) σ τ → τ.1 36 d = nI s → (∀ k, k < d - r → τ.1 36 (d - 1 - k) = nI (by' (ch fr k i))) → G_O_write_49 l v n post τ (nI (d + 1)) (nI (ch fr (d - r) i)) (nI r - 1) := by
      intro r
      induction r with
      | zero =>
        intro _ τ hX h1 h2
        exact T_O_write_49 (br_t (by decide) (hp τ _ hX ⟨d, hd, hd0, hdk, rfl, h1, fun k hk => h2 k (by omega)⟩))
      | succ r ih =>
        intro hr τ hX h1 h2
        have hpos := hdk (d - (r + 1)) (by omega)
        have hle := hcl (d - (r + 1)) (fun k' hk' => hdk k' (by omega))
        rw [nI_pred r]
        refine T_O_write_49 (br_f (nI_pos (by omega)) ?_)
        rw [nI_clamp (n := ch fr (d - (r + 1)) i) (by omega), nI_clamp (n := r) (by omega), (hX 34 _ (by omega)).1, (hX 33 _ (by omega)).1, e3 _ hpos (by omega), e4 _ hpos (by omega), show nI r + (-1) = nI r - 1 from (Int32.sub_eq_add_neg _ _).symm]
        refine ⟨vp_in_nI (by omega) (by decide), vp_in_nI (by omega) (by decide), vp_in_nI (by omega) (by decide), ?_⟩
        have q := ih (by omega) (gs_pI τ 36 r (nI (by' (ch fr (d - (r + 1)) i)))) (hX.I rfl) (by rw [pI_j (by omega)]; exact h1) (fun k hk => by
          by_cases e : k = d - (r + 1)
          · rw [e, show d - 1 - (d - (r + 1)) = r by omega, pI_eq]
          · rw [pI_j (by omega)]; exact h2 k (by omega))
        rw [show d - r = (d - (r + 1)) + 1 by omega] at q
        exact q
    have q := L d (Nat.le_refl _) (gs_pI σ 36 d (nI s)) (sX.rf.I rfl) pI_eq (fun k hk => absurd hk (by omega))
    rw [Nat.sub_self] at q
    have e2 : nI (d + 1) - 2 = nI d - 1 := by
      rcases Nat.eq_zero_or_pos d with z | z
      · subst z; decide
      · rw [show nI (d + 1) - 2 = nI (d + 1 - 2) from pk_sub (a := d + 1) (b := 2) (by omega), show nI d - 1 = nI (d - 1) from pk_sub (a := d) (b := 1) (by omega)]
        congr 1
    rw [e2]
    exact q
  have first : ∀ c k, ch fr k i = c → (∀ k', k' < k → 0 < ch fr k' i) → G_O_write_5 l v n post σ (nI i) (nI s) (nI (k + 1)) (nI c) := by
    intro c
    induction c using Nat.strongRecOn with
    | _ c ih =>
      intro k hk hpos
      have hle := hcl k hpos
      rcases Nat.eq_zero_or_pos c with z | z
      · subst z
        exact T_O_write_5 (br_t (by decide) (second k (by omega) hk hpos))
      · refine T_O_write_5 (br_f (nI_ge (a := 0) (b := c) z (by omega)) (br_f (nI_ge (a := k + 1) (b := 500) (by omega) (by omega)) ⟨vp_in_nI (by omega) (by decide), ?_⟩))
        rw [nI_clamp (by omega), e3 c z (by omega), nI_1]
        exact ih (fr c) (hf c z (by omega)) (k + 1) (by show fr (ch fr k i) = _; rw [hk]) (fun k' hk' => by
          by_cases e : k' = k
          · rw [e, hk]; exact z
          · exact hpos k' (by omega))
  exact E_O_write (T_O_write_0 (first i 0 rfl (fun k' h => absurd h (Nat.not_lt_zero k'))))
/-- what the search has done before its step t -/
def cO (τ : gs_S) (K W : Nat) (tb : Nat → Nat) (t : Nat) : Prop := τ.1 31 7 = nI (qM K W tb t) ∧ qM K W tb t < 500 ∧ (∀ j, j < qM K W tb t → τ.2.1 32 j = qS K W tb t j) ∧ (∀ j, 0 < j → j < qM K W tb t → τ.1 33 j = nI (qF K W tb t j) ∧ τ.1 34 j = nI (qB K W tb t j)) ∧ ∀ t', t' < t → cont K W tb t'
def fOr (σ σ' : gs_S) : Prop := sX (fun k j => (k = 31 ∧ 7 ≤ j) ∨ (32 ≤ k ∧ k ≤ 36)) σ σ'
theorem k_search {post : Int32 → gs_S → Prop} (hR : okR K W tb) (hC : cR σ K W tb) (hF : cF σ K W tb) (hD : ¬ sj K W tb) (hp : ∀ σ' z, sX (fun k j => (k = 31 ∧ j = 7) ∨ (32 ≤ k ∧ k ≤ 36)) σ σ' → oS K W tb z (σ'.1 36) → post z σ') : gM l v lyC 42 me_O_search (n + 3) [.ref (v.2.2 31)] σ (qI v lyC 42 post) := by
  have hN := pw_le1 hR.2.1 hR.2.2.2.1
  have hNp := pw_pos (W := W - 1) hR.1
  have hK := hR.2.1
  have hK2 := hR.1
  have hDD : dD K W tb := Classical.not_not.mp hD
  have full : ∀ τ t x1, sX (fun k j => (k = 31 ∧ j = 7) ∨ (32 ≤ k ∧ k ≤ 36)) σ τ → τ.1 31 7 = nI 500 → stp K W tb t → t / K < 500 → ¬ qX K W tb t = 0 → G_O_search_107 l v (n + 2) post τ x1 := by
    intro τ t x1 hX e hs ht hz
    have q : G_O_search_113 l v (n + 2) post τ := T_O_search_113 (hp τ _ hX (Or.inr ⟨hD, t, ht, hs, Or.inl ⟨hz, rfl⟩⟩))
    refine T_O_search_107 (T_O_search_20 ⟨fun _ => q, fun _ => ⟨fun _ => q, fun h => absurd ?_ h⟩⟩)
    rw [e]; decide
  have L20 : ∀ g i, i + g = 500 → ∀ τ, sX (fun k j => (k = 31 ∧ j = 7) ∨ (32 ≤ k ∧ k ≤ 36)) σ τ → cO τ K W tb (i * K) → G_O_search_20 l v (n + 2) post τ (nI i) := by
    intro g
    induction g with
    | zero =>
      intro i hi τ hX hO
      exfalso
      refine no_close hR hDD hO.2.2.2.2 ?_
      rw [Nat.mul_div_cancel _ (by omega)]
      have := hO.2.1
      omega
    | succ g ih =>
      intro i hi τ hX hO
      have hdv : i * K / K = i := Nat.mul_div_cancel _ (by omega)
      by_cases hcl : i < qM K W tb (i * K)
      · have hlt := hO.2.1
        refine T_O_search_20 (br_f (by rw [hO.1]; exact nI_ge hcl (by omega)) (br_f (by rw [hO.1]; exact nI_ge (b := 500) hlt (by omega)) ⟨vp_in_nI (by omega) (by decide), ?_⟩))
        rw [nI_clamp (by omega), hO.2.2.1 i hcl]
        have hCτ : cR τ K W tb := hC.kept hX (fun _ => by omega) (fun _ => by omega)
        have hFτ : cF τ K W tb := hF.kept hX (fun _ => by omega)
        refine k_spread hR hCτ hFτ (fun τ1 hX1 hE => ?_)
        have L50 : ∀ s, s ≤ K → ∀ τ, sX (fun k j => (k = 31 ∧ j = 7) ∨ (32 ≤ k ∧ k ≤ 36)) σ τ → cO τ K W tb (i * K + s) → (∀ s, s < K → τ.2.1 35 s = nX K W tb (qS K W tb (i * K) i) s) → G_O_search_50 l v (n + 2) post τ (nI i) (nI s) := by
          refine dn ?_ ?_
          · intro τ hX hO hE
            refine T_O_search_50 (br_t (by rw [(hX 4 6 (by omega)).1, hC.1]; exact nI_le (Nat.le_refl _) (by omega)) (T_O_search_107 ?_))
            rw [nI_1]
            refine ih (i + 1) (by omega) τ hX ?_
            rw [Nat.succ_mul]; exact hO
          · intro s hs ih2 τ hX hO hE
            have hlt2 := hO.2.1
            have ed : (i * K + s) / K = i := by rw [Nat.mul_comm, Nat.mul_add_div (by omega), Nat.div_eq_of_lt hs, Nat.add_zero]
            have emd : (i * K + s) % K = s := by rw [Nat.mul_comm, Nat.mul_add_mod, Nat.mod_eq_of_lt hs]
            have hl := q_later (K := K) (W := W) (tb := tb) (i * K) s
            have eX : τ.2.1 35 s = qX K W tb (i * K + s) := by
              rw [hE s hs]
              unfold qX
              rw [ed, emd, hl.2 i hcl]
            refine T_O_search_50 (br_f (by rw [(hX 4 6 (by omega)).1, hC.1]; exact nI_ge hs (by omega)) (br_f (by rw [hO.1]; exact nI_ge (b := 500) hlt2 (by omega)) ⟨vp_in_nI (by omega) (by decide), ?_⟩))
            rw [nI_clamp (n := s) (by omega), eX]
            refine ⟨fun hz => ⟨vp_in_nI (by omega) (by decide), ?_⟩, fun hz => ?_⟩
            · have hkp := q_keep (K := K) (W := W) (tb := tb) (i * K + s)
              have fin : ∀ τ2, sX (fun k j => (k = 31 ∧ j = 7) ∨ (32 ≤ k ∧ k ≤ 36)) σ τ2 → τ2.1 31 7 = nI (qM K W tb (i * K + s + 1)) → qM K W tb (i * K + s + 1) ≤ 500 → (∀ j, j < qM K W tb (i * K + s + 1) → τ2.2.1 32 j = qS K W tb (i * K + s + 1) j) → (∀ j, 0 < j → j < qM K W tb (i * K + s + 1) → τ2.1 33 j = nI (qF K W tb (i * K + s + 1) j) ∧ τ2.1 34 j = nI (qB K W tb (i * K + s + 1) j)) → τ2.2.1 35 = τ.2.1 35 → G_O_search_50 l v (n + 2) post τ2 (nI i) (nI (s + 1)) := by
                intro τ2 hX2 g1 g2 g3 g4 g5
                by_cases h5 : qM K W tb (i * K + s + 1) = 500
                · rw [h5] at g1
                  have hst : stp K W tb (i * K + s) := ⟨hO.2.2.2.2, fun q => by have := q.2.2; omega⟩
                  have h107 := full τ2 (i * K + s) (nI i) hX2 g1 hst (by rw [ed]; omega) hz
                  exact T_O_search_50 ⟨fun _ => h107, fun _ => ⟨fun _ => h107, fun h => absurd (by rw [g1]; decide) h⟩⟩
                · refine ih2 τ2 hX2 ⟨g1, (show qM K W tb (i * K + s + 1) < 500 by omega), g3, g4, fun t' ht' => ?_⟩ (fun s' hs' => by rw [g5]; exact hE s' hs')
                  by_cases e : t' = i * K + s
                  · rw [e]; exact ⟨by rw [ed]; omega, hz, by omega⟩
                  · exact hO.2.2.2.2 t' (by omega)
              refine k_meet hlt2 hO.1 hO.2.2.1 (fun hmt => ?_) (fun hmt => ?_)
              · rw [nI_1]
                have e := q_old (t := i * K + s) hmt
                have eM : qM K W tb (i * K + s + 1) = qM K W tb (i * K + s) := by unfold qM; rw [e]
                have eS : qS K W tb (i * K + s + 1) = qS K W tb (i * K + s) := by unfold qS; rw [e]
                have eF : qF K W tb (i * K + s + 1) = qF K W tb (i * K + s) := by unfold qF; rw [e]
                have eB : qB K W tb (i * K + s + 1) = qB K W tb (i * K + s) := by unfold qB; rw [e]
                exact fin τ hX (by rw [eM]; exact hO.1) (by rw [eM]; omega) (by rw [eM, eS]; exact hO.2.2.1) (by rw [eM, eF, eB]; exact hO.2.2.2.1) rfl
              · rw [nI_1]
                have e := q_new (t := i * K + s) hmt
                have eM : qM K W tb (i * K + s + 1) = qM K W tb (i * K + s) + 1 := by
                  show (bq K W tb (i * K + s + 1)).1 = _
                  rw [e]
                have eS : ∀ j, qS K W tb (i * K + s + 1) j = if j = qM K W tb (i * K + s) then qX K W tb (i * K + s) else qS K W tb (i * K + s) j := fun j => by
                  show (bq K W tb (i * K + s + 1)).2.1 j = _
                  rw [e]
                have eF : ∀ j, qF K W tb (i * K + s + 1) j = if j = qM K W tb (i * K + s) then i else qF K W tb (i * K + s) j := fun j => by
                  show (bq K W tb (i * K + s + 1)).2.2.1 j = _
                  rw [e, ed]
                have eB : ∀ j, qB K W tb (i * K + s + 1) j = if j = qM K W tb (i * K + s) then s else qB K W tb (i * K + s) j := fun j => by
                  show (bq K W tb (i * K + s + 1)).2.2.2 j = _
                  rw [e, emd]
                refine fin _ ((((hX.L (by omega)).I (by omega)).I (by omega)).I (by omega)) ?_ (by omega) (fun j hj => ?_) (fun j h0 hj => ?_) ?_
                · rw [pI_eq, eM]
                · rw [eS, pI_2, pI_2, pI_2, pL_row]
                  show (if j = qM K W tb (i * K + s) then qX K W tb (i * K + s) else τ.2.1 32 j) = _
                  by_cases q : j = qM K W tb (i * K + s)
                  · rw [if_pos q, if_pos q]
                  · rw [if_neg q, if_neg q]; exact hO.2.2.1 j (by omega)
                · rw [eF, eB, pI_k (by decide), pI_k (by decide), pI_k (k' := 34) (by decide)]
                  by_cases q : j = qM K W tb (i * K + s)
                  · rw [if_pos q, if_pos q, q, pI_eq, pI_eq]
                    exact ⟨rfl, rfl⟩
                  · rw [if_neg q, if_neg q, pI_j q, pI_j q, pI_k (by decide)]
                    exact hO.2.2.2.1 j h0 (by omega)
                · rw [pI_2, pI_2, pI_2]
                  exact pL_k (by decide)
            · refine k_write (fr := qF K W tb (i * K + s)) (by' := qB K W tb (i * K + s)) (i := i) (s := s) hlt2 (by omega) (fun j h1 h2 => (q_lt hR _ hO.2.2.2.2 j h1 h2).1) (fun j h1 h2 => (hO.2.2.2.1 j h1 h2).1) (fun j h1 h2 => (hO.2.2.2.1 j h1 h2).2) (fun τ2 z hX2 hw => ?_)
              refine hp τ2 z (hX.tr (hX2.mono (fun k j h => by omega))) (Or.inr ⟨hD, i * K + s, by rw [ed]; omega, ⟨hO.2.2.2.2, fun q => q.2.1 hz⟩, Or.inr ⟨hz, ?_⟩⟩)
              rw [ed, emd]; exact hw
        have hX1' : sX (fun k j => (k = 31 ∧ j = 7) ∨ (32 ≤ k ∧ k ≤ 36)) σ τ1 := hX.tr (hX1.mono (fun k j h => by omega))
        refine L50 0 (Nat.zero_le _) τ1 hX1' ?_ hE
        rw [Nat.add_zero]
        exact ⟨(hX1 31 7 (by omega)).1.trans hO.1, hO.2.1, fun j hj => (hX1 32 j (by omega)).2.1.trans (hO.2.2.1 j hj), fun j h0 hj => ⟨(hX1 33 j (by omega)).1.trans (hO.2.2.2.1 j h0 hj).1, (hX1 34 j (by omega)).1.trans (hO.2.2.2.1 j h0 hj).2⟩, hO.2.2.2.2⟩
      · exfalso
        refine no_close hR hDD hO.2.2.2.2 ?_
        rw [hdv]; exact hcl
  refine E_O_search (T_O_search_0 ?_)
  have hX0 : sX (fun k j => (k = 31 ∧ j = 7) ∨ (32 ≤ k ∧ k ≤ 36)) σ (gs_pI σ 31 7 0) := sX.rf.I (by omega)
  refine k_allNodes hR (hC.kept hX0 (fun _ => by omega) (fun _ => by omega)) (fun r hr => ?_)
  have er : r = aS (K ^ (W - 1)) := bt_ext (fun y hy => by rw [Bool.eq_iff_iff, hr y hy, aS_bit hN hy])
  refine k_meet (m := 0) (S := fun _ => 0) (by decide) pI_eq (fun j h => absurd h (Nat.not_lt_zero j)) (fun h => by cases h) (fun _ => ?_)
  refine L20 500 0 (by decide) _ ((((hX0.L (by omega)).I (by omega)).I (by omega)).I (by omega)) ?_
  rw [Nat.zero_mul]
  have e1 : qM K W tb 0 = 1 := rfl
  refine ⟨?_, by rw [e1]; decide, fun j hj => ?_, fun j h0 hj => by omega, fun t' h => absurd h (Nat.not_lt_zero t')⟩
  · rw [pI_eq, e1]
  · have ej : j = 0 := by omega
    rw [ej, pI_2, pI_2, pI_2, pL_eq, er]
    rfl
/-- the cache of the orphan -/
def cOr (σ : gs_S) (K W : Nat) (tb : Nat → Nat) : Prop := σ.1 31 8 = 0 ∨ (σ.1 31 8 = 1 ∧ oS K W tb (σ.1 31 9) (σ.1 36))
def fO (σ σ' : gs_S) : Prop := sX (fun k j => (k = 14 ∧ 3 ≤ j ∧ j ≤ 6) ∨ k = 15 ∨ k = 16 ∨ (k = 31 ∧ 7 ≤ j) ∨ (32 ≤ k ∧ k ≤ 36)) σ σ'
theorem k_O_find {post : gs_S → Prop} (hR : okR K W tb) (hC : cR σ K W tb) (hF : cF σ K W tb) (hc : cSj σ K W tb) (ho : cOr σ K W tb) (hp : ∀ σ', fO σ σ' → cSj σ' K W tb → σ'.1 14 5 = σ.1 14 5 → σ'.1 14 6 = σ.1 14 6 → σ'.1 31 8 = 1 → oS K W tb (σ'.1 31 9) (σ'.1 36) → post σ') : gM l v lyC 42 me_O_find (n + 5) [.ref (v.2.2 31)] σ (qV v lyC 42 post) := by
  refine E_O_find (T_O_find_0 ?_)
  rcases ho with h0 | ⟨h1, h2⟩
  · refine br_t h0 ?_
    have hX0 : fO σ (gs_pI σ 31 8 1) := sX.rf.I (by omega)
    refine k_missesNothing hR (hC.kept hX0 (fun _ => by omega) (fun _ => by omega)) (hF.kept hX0 (fun _ => by omega)) (by unfold cSj; rw [pI_k (by decide)]; exact hc) (fun τ hX hS h5 h6 => ?_)
    have hX1 : fO σ τ := hX0.tr (hX.mono (fun k j h => by omega))
    rw [pI_k (by decide)] at h5 h6
    have e8 : τ.1 31 8 = 1 := by rw [(hX 31 8 (by omega)).1, pI_eq]
    refine ⟨fun hs => br_f (by decide) (T_O_find_32 (hp _ (hX1.I (by omega)) ?_ (by rw [pI_k (by decide)]; exact h5) (by rw [pI_k (by decide)]; exact h6) (by rw [pI_j (by decide)]; exact e8) (Or.inl ⟨hs, pI_eq⟩))), fun hs => br_t rfl ?_⟩
    · unfold cSj; rw [pI_k (by decide)]; exact hS
    · refine k_search hR (hC.kept hX1 (fun _ => by omega) (fun _ => by omega)) (hF.kept hX1 (fun _ => by omega)) hs (fun τ2 z hX2 hz => T_O_find_32 (hp _ ((hX1.tr (hX2.mono (fun k j h => by omega))).I (by omega)) ?_ (by rw [pI_k (by decide), (hX2 14 5 (by omega)).1]; exact h5) (by rw [pI_k (by decide), (hX2 14 6 (by omega)).1]; exact h6) ?_ ?_))
      · unfold cSj; rw [pI_k (by decide), (hX2 14 3 (by omega)).1, (hX2 14 4 (by omega)).1]; exact hS
      · rw [pI_j (by decide), (hX2 31 8 (by omega)).1]; exact e8
      · rw [pI_eq, pI_k (by decide)]; exact hz
  · exact br_f (by rw [h1]; decide) (hp σ sX.rf hc rfl rfl h1 h2)
end K19
