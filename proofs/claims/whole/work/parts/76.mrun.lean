/-! The reference begins a value; its run over a text is the machine's. -/
abbrev fWk (σ σ' : gs_S) : Prop := sX (fun k j => (k = 0 ∧ (j = 12 ∨ j = 13)) ∨ (5 ≤ k ∧ k ≤ 18)) σ σ'
section K35
variable {l : Launch} {v : gs_V} {n : Nat} {σ : gs_S} {K W i m : Nat}
theorem k_begins {post : Int32 → gs_S → Prop} {c : Nat} {f : Fm} {r : List Fm} (hK2 : 2 ≤ K) (hK4 : K ≤ 4) (hW1 : 1 ≤ W) (hW4 : W ≤ 4) (hm : m < K ^ W) (hc : c < 128) (hi : i < 64) (h10 : σ.1 0 10 = nI K) (h11 : σ.1 0 11 = nI W) (hS : mSt σ K i m true (f :: r)) (hp0 : bgn K W c f r = none → ∀ σ', fG σ σ' → post 0 σ') (hp1 : ∀ d' fs' σ', bgn K W c f r = some (d', fs') → fG σ σ' → mSt σ' K (i + 1) m d' fs' → post 1 σ') : gM l v lyM 33 me_M_begins (n + 7) [.ref (v.2.2 0), .int (nI c), .int (nI m)] σ (qI v lyM 33 post) := by
  obtain ⟨h13, hl, hF, _, hr, hb⟩ := hS
  have hF := hF rfl
  have h256 := pw_le hK4 hW4
  have hin : vp_in (nI r.length) 6 := vp_in_nI (by omega) (by decide)
  have hb' : ∀ g : Fm, g.1 = f.1 → bs (g :: r) := fun g hg => by
    rcases hb with z | z
    · exact Or.inl ⟨z.1, by rw [hg]; exact z.2⟩
    · exact Or.inr z
  have operand : ∀ w : Vl, (∀ n, w n < K) → bgn K W c f r = some (false, opd K w f :: r) → gM l v lyM 33 me_M_operand (n + 6) [.ref (v.2.2 0), .int (nI (w m))] σ (qV v lyM 33 (fun σ1 => G_M_begins_124 l v (n + 6) post σ1)) := fun w hw hg => by
    refine k_operand (n := n + 5) hK2 hK4 h13 h10 (by omega) (by omega) hF hw (fun τ2 hX2 hD2 => T_M_begins_124 (hp1 false _ τ2 hg (hX2.mono (fun k j h => by omega)) ⟨?_, hl, fun h => absurd h (by decide), fun _ => ?_, ?_, hb' _ rfl⟩))
    · rw [(hX2 0 13 (by omega)).1]; exact h13
    · obtain ⟨d1, d2, d3, d4, d5⟩ := hD2
      exact ⟨d1, d2, d3, d4.kept (by omega) rfl rfl rfl rfl rfl rfl, d5⟩
    · exact mS.kept (by omega) r hr (fun j hj k h1 h2 => (hX2 k j (by omega)).1)
  refine E_M_begins (T_M_begins_0 ?_)
  rw [show (48 : Int32) = nI 48 from rfl, show (57 : Int32) = nI 57 from rfl, nI_ltI (by omega) (by omega), nI_ltI (by omega) (by omega), h10]
  have low : ¬ (48 ≤ c ∧ c ≤ 57) → G_M_begins_28 l v (n + 6) post σ (nI c) (nI m) := fun q48 => by
    refine T_M_begins_28 ?_
    rw [show (97 : Int32) = nI 97 from rfl, nI_ltI (by omega) (by omega), h11, nI_add, nI_leI (by omega) (by omega), h10]
    have rest : ¬ (97 ≤ c ∧ c < 97 + W) → G_M_begins_77 l v (n + 6) post σ (nI c) := fun q97 => by
      have turn : ¬ (c = 40 ∧ r.length < 4) → G_M_begins_100 l v (n + 6) post σ (nI c) := fun q40 => by
        refine T_M_begins_100 ?_
        rw [show (33 : Int32) = nI 33 from rfl, chq hc (by decide), h13, nI_clamp (by omega)]
        refine ⟨fun ne => hp0 ?_ σ sX.rf, fun e => ⟨hin, hin, T_M_begins_124 ?_⟩⟩
        · unfold bgn
          rw [if_neg q48, if_neg q97]
          by_cases z : c = 40
          · rw [if_pos z, if_neg (fun z2 => q40 ⟨z, z2⟩)]
          · rw [if_neg z, if_neg ne]
        · have hg : bgn K W c f r = some (true, (f.1, f.2.1, !f.2.2.1, f.2.2.2) :: r) := by
            unfold bgn
            rw [if_neg q48, if_neg q97, if_neg (by omega), if_pos e]
          obtain ⟨hf, ⟨a5, a6, a7, c', b1, b2, b3⟩, hac, u1, u2, u3, u4⟩ := hF
          refine hp1 true _ _ hg (sX.rf.I (by omega)) ⟨by rw [pI_k (by decide)]; exact h13, hl, fun _ => ⟨hf, ⟨?_, fun z => ?_, fun z => ?_, c' + 1, by omega, ?_, ?_⟩, hac.kept ?_ ?_, u1.kept ?_ ?_, u2.kept ?_ ?_, u3.kept ?_ ?_, u4.kept ?_ ?_⟩, fun h => absurd h (by decide), ?_, hb' _ rfl⟩
          · rw [pI_k (by decide)]; exact a5
          · rw [pI_k (by decide)]; exact a6 z
          · rw [pI_k (by decide)]; exact a7 z
          · rw [pI_eq, b2, nI_1]
          · show (c' + 1) % 2 = 1 ↔ (!f.2.2.1) = true
            cases hn : f.2.2.1 with
            | true =>
              have := b3.mpr hn
              exact ⟨fun z => by omega, fun z => absurd z (by decide)⟩
            | false =>
              have : ¬ c' % 2 = 1 := fun z => by rw [b3, hn] at z; exact absurd z (by decide)
              exact ⟨fun _ => rfl, fun _ => by omega⟩
          all_goals first | (rw [pI_k (by decide)]) | skip
          exact mS.kept (by omega) r hr (fun j hj k h1 h2 => by
            by_cases e8 : k = 8
            · subst e8; rw [pI_j (by omega)]
            · rw [pI_k e8])
      refine T_M_begins_77 ?_
      rw [show (40 : Int32) = nI 40 from rfl, chq hc (by decide), h13, show ((4 : Int32) ≤ nI r.length ↔ 4 ≤ r.length) from nI_leI (a := 4) (by decide) (by omega)]
      refine ⟨fun ne => turn (fun z => ne z.1), fun e => ⟨fun h4 => turn (fun z => by omega), fun h4 => ?_⟩⟩
      have hg : bgn K W c f r = some (true, frs 1 (fun _ => 0) (fun _ => 0) :: f :: r) := by
        unfold bgn
        rw [if_neg q48, if_neg q97, if_pos e, if_pos (by omega)]
      refine k_M_open (n := n + 4) (i := i + 1) (K := K) (m := m) (kd := 1) (cd := fun _ => 0) (t := r.length) hl h13 (Or.inl rfl) (fun _ => by omega) (fun τ hX b13 bF => T_M_begins_124 (hp1 true _ τ hg (hX.mono (fun k j h => by omega)) ⟨b13, by rw [List.length_cons]; omega, fun _ => bF, fun h => absurd h (by decide), ⟨hF.kept (by omega) (fun k h1 h2 => (hX k _ (by omega)).1), ?_⟩, Or.inr hb⟩)) hK2
      exact mS.kept (by omega) r hr (fun j hj k h1 h2 => (hX k j (by omega)).1)
    refine ⟨fun q => rest (by omega), fun q => ⟨fun q2 => rest (by omega), fun q2 => ?_⟩⟩
    rw [show nI W - 1 = nI (W - 1) from pk_sub (a := W) (b := 1) hW1, show nI c - nI 97 = nI (c - 97) from pk_sub (by omega), show nI (W - 1) - nI (c - 97) = nI (W - 1 - (c - 97)) from pk_sub (by omega)]
    refine k_powerOf (n := n + 5) (by omega) ?_
    have hp1' : 0 < K ^ (W - 1 - (c - 97)) := Nat.pow_pos (by omega)
    have hp2 : K ^ (W - 1 - (c - 97)) ≤ K ^ W := Nat.pow_le_pow_right (by omega) (by omega)
    have hd : m / K ^ (W - 1 - (c - 97)) ≤ m := Nat.div_le_self _ _
    rw [h10, pk_div (by omega) hp1' (by omega), jR_n (by omega) (by omega) (by omega)]
    refine ⟨nI_ne0 hp1' (by omega), nI_ne0 (by omega) (by omega), operand (fun n => n / K ^ (W - 1 - (c - 97)) % K) (fun n => Nat.mod_lt _ (by omega)) ?_⟩
    unfold bgn
    rw [if_neg q48, if_pos ⟨by omega, by omega⟩]
  refine ⟨fun q => low (by omega), fun q => ⟨fun q2 => low (by omega), fun q2 => ⟨nI_ne0 (by omega) (by omega), ?_⟩⟩⟩
  rw [show nI c - nI 48 = nI (c - 48) from pk_sub (by omega), jR_n (by omega) (by omega) (by omega)]
  refine operand (fun _ => (c - 48) % K) (fun _ => Nat.mod_lt _ (by omega)) ?_
  unfold bgn
  rw [if_pos ⟨by omega, by omega⟩]
theorem k_work {post : Int32 → gs_S → Prop} {sz : Nat} {tx : Nat → Nat} (hk : tOk K W tx sz) (h3 : 3 ≤ sz) (hm : m < K ^ W) (e0 : σ.1 0 0 = nI sz) (e10 : σ.1 0 10 = nI K) (e11 : σ.1 0 11 = nI W) (et : ∀ j, j < sz → σ.1 1 j = nI (tx j)) (hp : ∀ x σ', fWk σ σ' → (∀ q, (rX K W tx sz).1 = some q → σ'.1 0 12 = nI q) → ((rX K W tx sz).1 = none → σ'.1 0 12 = -1 ∧ x = nI ((rX K W tx sz).2 m)) → post x σ') : gM l v lyM 33 me_M_work (n + 8) [.ref (v.2.2 0), .int (nI m)] σ (qI v lyM 33 post) := by
  obtain ⟨hK2, hK4, hW1, hW4, h64, htx⟩ := hk
  have L : ∀ k i, i + k = sz → ∀ d fs τ, fWk σ τ → τ.1 0 12 = -1 → mSt τ K i m d fs → RN K W tx sz d fs i = rX K W tx sz → G_M_work_26 l v (n + 7) post τ (nI m) (if d = true then 1 else 0) (nI i) := by
    intro k
    induction k with
    | zero =>
      intro i hi d fs τ hX h12 hS hR
      rw [RN_end (by omega)] at hR
      refine T_M_work_26 (br_t (by rw [(hX 0 0 (by omega)).1, e0]; exact nI_le (by omega) (by omega)) ?_)
      have bad : ∀ τ' x, fWk σ τ' → (rX K W tx sz).1 = some sz → G_M_work_145 l v (n + 7) post τ' x := fun τ' x hX' hq => by
        refine T_M_work_145 (T_M_work_153 (hp _ _ (hX'.I (by omega)) (fun q h => ?_) (fun h => by rw [hq] at h; exact absurd h (by simp))))
        rw [hq] at h
        have := Option.some.inj h
        subst this
        rw [pI_eq, (hX' 0 0 (by omega)).1, e0]
      cases fs with
      | nil => exact hS.elim
      | cons f r =>
        cases d with
        | true =>
          have : (rX K W tx sz).1 = some sz := by rw [← hR]; rfl
          exact br_f (by decide) (T_M_work_133 (br_t' (by decide) (bad τ _ hX this)))
        | false =>
          refine br_t rfl (k_endChoice (n := n + 1) hK2 hK4 ((hX 0 10 (by omega)).1.trans e10) hS (fun w' kd cd r' τ' he hX' b13 bl b5 bk3 bk3' b6 bcd bw bS bb => ?_))
          have hXX : fWk σ τ' := hX.tr (hX'.mono (fun k j h => by omega))
          have hR' : rX K W tx sz = (if r'.length = 0 then none else some sz, w') := by
            rw [← hR]
            show (if (endC (f :: r) (vL K f 0)).2.2.2.length = 0 then none else some sz, (endC (f :: r) (vL K f 0)).1) = _
            rw [he]
          have hl4 := hS.2.1
          refine T_M_work_133 (br_f' rfl ?_)
          rw [b13, show (nI r'.length ≤ 0 ↔ r'.length ≤ 0) from nI_leI (b := 0) (by omega) (by decide)]
          refine ⟨fun z => T_M_work_153 (hp _ _ hXX (fun q h => ?_) (fun _ => ⟨?_, by rw [hR']⟩)), fun z => bad τ' _ hXX (by rw [hR', if_neg (by omega)])⟩
          · rw [hR', if_pos (by omega)] at h; exact absurd h (by simp)
          · rw [(hX' 0 12 (by omega)).1]; exact h12
    | succ k ih =>
      intro i hi d fs τ hX h12 hS hR
      have hi2 : i < sz := by omega
      have hch := htx i hi2
      refine T_M_work_26 (br_f (by rw [(hX 0 0 (by omega)).1, e0]; exact nI_ge hi2 (by omega)) ⟨vp_in_nI (by omega) (by decide), ?_⟩)
      rw [nI_clamp (by omega), (hX 1 i (by omega)).1, et i hi2]
      cases fs with
      | nil => exact hS.elim
      | cons f r =>
        have fault : mst K W (tx i) d (f :: r) = none → ∀ τ', fG τ τ' → post 0 (gs_pI τ' 0 12 (nI i)) := fun hst τ' hX' => by
          have hR' : (rX K W tx sz).1 = some i := by rw [← hR, RN_none hi2 hst]
          refine hp _ _ ((hX.tr (hX'.mono (fun k j h => by omega))).I (by omega)) (fun q h => ?_) (fun h => by rw [hR'] at h; exact absurd h (by simp))
          rw [hR'] at h
          have := Option.some.inj h
          subst this
          exact pI_eq
        have next : ∀ d' fs' τ', mst K W (tx i) d (f :: r) = some (d', fs') → fG τ τ' → mSt τ' K (i + 1) m d' fs' → ∀ y : Int32, y = (if d' = true then 1 else 0) → G_M_work_114 l v (n + 7) post τ' (nI m) (nI i) y := fun d' fs' τ' hst hX' hS' y hy => by
          refine T_M_work_114 ?_
          rw [nI_1, hy]
          refine ih (i + 1) (by omega) d' fs' τ' (hX.tr (hX'.mono (fun k j h => by omega))) ((hX' 0 12 (by omega)).1.trans h12) hS' ?_
          rw [← RN_some hi2 hst]; exact hR
        cases d with
        | true =>
          refine br_f (by decide) (k_begins (n := n) hK2 hK4 hW1 hW4 hm (by omega) (by omega) ((hX 0 10 (by omega)).1.trans e10) ((hX 0 11 (by omega)).1.trans e11) hS (fun hg τ' hX' => T_M_work_62 (br_f' rfl (fault hg τ' hX'))) (fun d' fs' τ' hg hX' hS' => T_M_work_62 (br_t' (by decide) (br_f (by decide) ?_))))
          have hd := bgn_due hW4 hg
          rw [show (40 : Int32) = nI 40 from rfl, show (33 : Int32) = nI 33 from rfl, chq (by omega) (by decide), chq (by omega) (by decide)]
          refine ⟨fun e => T_M_work_94 (next d' fs' τ' hg hX' hS' 1 ?_), fun e => ⟨fun e2 => next d' fs' τ' hg hX' hS' 0 ?_, fun e2 => T_M_work_94 (next d' fs' τ' hg hX' hS' 1 ?_)⟩⟩
          · rw [if_pos (hd.mpr (Or.inl e))]
          · rw [if_neg (fun z => (hd.mp z).elim e e2)]
          · rw [if_pos (hd.mpr (Or.inr e2))]
        | false =>
          refine br_t rfl (k_goesOn (n := n) hK2 hK4 (by omega) (by omega) ((hX 0 10 (by omega)).1.trans e10) hS (fun hg τ' hX' => T_M_work_62 (br_f' rfl (fault hg τ' hX'))) (fun d' fs' τ' hg hX' hS' => T_M_work_62 (br_t' (by decide) (br_t rfl ?_))))
          have hd := gon_due hg
          rw [show (41 : Int32) = nI 41 from rfl, chq (by omega) (by decide)]
          refine ⟨fun e => next d' fs' τ' hg hX' hS' 0 ?_, fun e => next d' fs' τ' hg hX' hS' 1 ?_⟩
          · rw [if_neg (fun z => (hd.mp z) e)]
          · rw [if_pos (hd.mpr e)]
  refine E_M_work (T_M_work_0 (k_fresh (n := n + 6) (t := 0) (by decide) (fun τ hX a8 a10 a12 a14 a16 a18 => ?_)))
  have hX0 : fWk σ τ := ((sX.rf.I (by omega)).I (by omega)).tr (hX.mono (fun k j h => by omega))
  refine L (sz - 3) 3 (by omega) true [frB] _ (hX0.I (by omega)) pI_eq ⟨?_, by decide, fun _ => ?_, fun h => absurd h (by decide), trivial, Or.inl ⟨rfl, rfl⟩⟩ rfl
  · rw [pI_j (by decide), (hX 0 13 (by omega)).1, pI_k (by decide), pI_eq]; rfl
  · refine mF_frs (by decide) (fun _ => by omega) (fun _ => by omega) ?_ (fun h => absurd rfl h) (fun h => absurd h (by decide)) ?_ ?_ ?_ ?_ ?_ ?_
    · rw [pI_k (by decide), (hX 5 _ (by omega)).1]; exact pI_eq
    all_goals (rw [pI_k (by decide)]; assumption)
end K35
