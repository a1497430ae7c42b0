/-! The reference reads on, or begins; its work on a text. -/
def mSt (σ : gs_S) (K i m : Nat) (d : Bool) : List Fm → Prop
  | [] => False
  | g :: r => σ.1 0 13 = nI r.length ∧ r.length ≤ 4 ∧ (d = true → mQu σ K i r.length g m) ∧ (d = false → mD σ K i r.length g m) ∧ mS σ K i m r ∧ bs (g :: r)
abbrev fG (σ σ' : gs_S) : Prop := sX (fun k j => (k = 0 ∧ j = 13) ∨ (5 ≤ k ∧ k ≤ 18)) σ σ'
theorem gon_due {K c : Nat} {f : Fm} {r : List Fm} {d : Bool} {fs : List Fm} (h : gon K c f r = some (d, fs)) : d = true ↔ c ≠ 41 := by
  unfold gon at h
  by_cases h1 : lv c < 5
  · rw [if_pos h1] at h
    have h41 : c ≠ 41 := fun e => by subst e; exact absurd h1 (by decide)
    by_cases h2 : lv c = 2 ∧ f.2.1 2 ≠ none
    · rw [if_pos h2] at h; exact absurd h (by simp)
    · rw [if_neg h2] at h
      have := congrArg Prod.fst (Option.some.inj h)
      exact ⟨fun _ => h41, fun _ => this.symm⟩
  · rw [if_neg h1] at h
    by_cases h3 : c = 63
    · rw [if_pos h3] at h
      by_cases h2 : r.length < 4
      · rw [if_pos h2] at h
        have := congrArg Prod.fst (Option.some.inj h)
        exact ⟨fun _ => by omega, fun _ => this.symm⟩
      · rw [if_neg h2] at h; exact absurd h (by simp)
    · rw [if_neg h3] at h
      by_cases h4 : c = 58
      · rw [if_pos h4] at h
        by_cases h2 : (endC (f :: r) (vL K f 0)).2.1 = 2
        · rw [if_pos h2] at h
          have := congrArg Prod.fst (Option.some.inj h)
          exact ⟨fun _ => by omega, fun _ => this.symm⟩
        · rw [if_neg h2] at h; exact absurd h (by simp)
      · rw [if_neg h4] at h
        by_cases h5 : c = 41
        · rw [if_pos h5] at h
          by_cases h2 : (endC (f :: r) (vL K f 0)).2.1 = 1
          · rw [if_pos h2] at h
            cases hq : (endC (f :: r) (vL K f 0)).2.2.2 with
            | nil => rw [hq] at h; exact absurd h (by simp)
            | cons g r' =>
              rw [hq] at h
              have := congrArg Prod.fst (Option.some.inj h)
              have this : false = d := this
              rw [← this]
              exact ⟨fun z => absurd z (by decide), fun z => absurd h5 z⟩
          · rw [if_neg h2] at h; exact absurd h (by simp)
        · rw [if_neg h5] at h; exact absurd h (by simp)
theorem bgn_due {K W c : Nat} {f : Fm} {r : List Fm} {d : Bool} {fs : List Fm} (hW : W ≤ 4) (h : bgn K W c f r = some (d, fs)) : d = true ↔ (c = 40 ∨ c = 33) := by
  unfold bgn at h
  by_cases h1 : 48 ≤ c ∧ c ≤ 57
  · rw [if_pos h1] at h
    have : false = d := congrArg Prod.fst (Option.some.inj h)
    rw [← this]
    exact ⟨fun z => absurd z (by decide), fun z => by omega⟩
  · rw [if_neg h1] at h
    by_cases h2 : 97 ≤ c ∧ c < 97 + W
    · rw [if_pos h2] at h
      have : false = d := congrArg Prod.fst (Option.some.inj h)
      rw [← this]
      exact ⟨fun z => absurd z (by decide), fun z => by omega⟩
    · rw [if_neg h2] at h
      by_cases h3 : c = 40
      · rw [if_pos h3] at h
        by_cases h4 : r.length < 4
        · rw [if_pos h4] at h
          have : true = d := congrArg Prod.fst (Option.some.inj h)
          exact ⟨fun _ => Or.inl h3, fun _ => this.symm⟩
        · rw [if_neg h4] at h; exact absurd h (by simp)
      · rw [if_neg h3] at h
        by_cases h5 : c = 33
        · rw [if_pos h5] at h
          have : true = d := congrArg Prod.fst (Option.some.inj h)
          exact ⟨fun _ => Or.inr h5, fun _ => this.symm⟩
        · rw [if_neg h5] at h; exact absurd h (by simp)
section K34
variable {l : Launch} {v : gs_V} {n : Nat} {σ : gs_S} {K i m : Nat} {f : Fm} {r : List Fm}
theorem k_endChoice {post : Int32 → gs_S → Prop} (hK2 : 2 ≤ K) (hK4 : K ≤ 4) (h10 : σ.1 0 10 = nI K) (hS : mSt σ K i m false (f :: r)) (hp : ∀ w' kd cd r' σ', endC (f :: r) (vL K f 0) = (w', kd, cd, r') → sX (fun k j => (k = 0 ∧ j = 13) ∨ ((10 ≤ k ∧ k ≤ 18) ∧ j = r.length)) σ σ' → σ'.1 0 13 = nI r'.length → r'.length ≤ r.length → σ'.1 5 r'.length = nI kd → kd ≤ 3 → kd ≠ 3 → (kd ≠ 0 → σ'.1 6 r'.length = nI (cd m)) → (∀ n, cd n < K) → (∀ n, w' n < K) → mS σ' K i m r' → (kd ≠ 0 → bs r') → post (nI (w' m)) σ') : gM l v lyM 33 me_M_endChoice (n + 6) [.ref (v.2.2 0)] σ (qI v lyM 33 post) := by
  obtain ⟨h13, hl, _, hD, hr, hb⟩ := hS
  have hD := hD rfl
  refine E_M_endChoice (T_M_endChoice_0 (k_endEither hK2 hK4 h13 h10 (by omega) hD (fun s0 hX a10 a12 a14 a16 a18 => ?_)))
  obtain ⟨hf, hx, hnt, ⟨e5, e6, e7, e8⟩, _⟩ := hD
  have hr0 : mS s0 K i m r := mS.kept (Nat.le_refl _) r hr (fun j hj k h1 h2 => (hX k j (by omega)).1)
  refine k_popped r f (vL K f 0) s0 sX.rf ((hX 0 13 (by omega)).1.trans h13) (by omega) hf ((hX 5 _ (by omega)).1.trans e5) (fun z => (hX 6 _ (by omega)).1.trans (e6 z)) (fun z => (hX 7 _ (by omega)).1.trans (e7 z)) hr0 hb (fun n => vL_lt hK2 hf hx 0 n) hK4 (fun w' kd cd r' σ' he hX' b1 b2 b3 b4 b5 b6 b7 b8 b9 b10 => ?_)
  refine hp w' kd cd r' σ' he ((hX.mono (fun k j h => Or.inr h)).tr (hX'.mono (fun k j h => Or.inl h))) b1 b2 ((hX' 5 _ (by omega)).1.trans b3) b4 b5 (fun z => (hX' 6 _ (by omega)).1.trans (b6 z)) b7 b8 ?_ b10
  exact mS.kept (Nat.le_refl _) r' b9 (fun j hj k h1 h2 => (hX' k j (by omega)).1)
theorem mF_frs {τ : gs_S} {kd t : Nat} {cd fi : Vl} (hkd : kd ≤ 3) (hcd : ∀ n, cd n < K) (hfi : ∀ n, fi n < K) (e5 : τ.1 5 t = nI kd) (e6 : kd ≠ 0 → τ.1 6 t = nI (cd m)) (e7 : kd = 3 → τ.1 7 t = nI (fi m)) (e8 : τ.1 8 t = 0) (e10 : τ.1 10 t = 0) (e12 : τ.1 12 t = 0) (e14 : τ.1 14 t = 0) (e16 : τ.1 16 t = 0) (e18 : τ.1 18 t = 0) : mQu τ K i t (frs kd cd fi) m :=
  ⟨⟨fun L a c h => absurd h (by simp [frs]), hcd, hfi, hkd⟩, ⟨e5, e6, e7, 0, Nat.zero_le _, e8, by simp [frs]⟩, ac_none rfl e10, ac_none rfl e12, ac_none rfl e14, ac_none rfl e16, ac_none rfl e18⟩
theorem k_fresh {post : gs_S → Prop} {t : Nat} (ht : t ≤ 5) (hp : ∀ σ', sX (fun k j => (k = 8 ∨ k = 10 ∨ k = 12 ∨ k = 14 ∨ k = 16 ∨ k = 18) ∧ j = t) σ σ' → σ'.1 8 t = 0 → σ'.1 10 t = 0 → σ'.1 12 t = 0 → σ'.1 14 t = 0 → σ'.1 16 t = 0 → σ'.1 18 t = 0 → post σ') : gM l v lyM 33 me_M_fresh (n + 1) [.ref (v.2.2 0), .int (nI t)] σ (qV v lyM 33 post) := by
  have hin : vp_in (nI t) 6 := vp_in_nI (by omega) (by decide)
  refine E_M_fresh (T_M_fresh_0 ?_)
  rw [nI_clamp (by omega)]
  refine ⟨hin, hin, hin, hin, hin, hin, hp _ ((((((sX.rf.I (by omega)).I (by omega)).I (by omega)).I (by omega)).I (by omega)).I (by omega)) ?_ ?_ ?_ ?_ ?_ pI_eq⟩
  · rw [pI_k (by decide), pI_k (by decide), pI_k (by decide), pI_k (by decide), pI_k (by decide), pI_eq]
  · rw [pI_k (by decide), pI_k (by decide), pI_k (by decide), pI_k (by decide), pI_eq]
  · rw [pI_k (by decide), pI_k (by decide), pI_k (by decide), pI_eq]
  · rw [pI_k (by decide), pI_k (by decide), pI_eq]
  · rw [pI_k (by decide), pI_eq]
theorem k_M_open {post : gs_S → Prop} {t kd : Nat} {cd : Vl} (ht : t ≤ 4) (h13 : σ.1 0 13 = nI t) (hkd : kd = 1 ∨ kd = 2) (hcd : ∀ n, cd n < K) (hp : ∀ σ', sX (fun k j => (k = 0 ∧ j = 13) ∨ ((5 ≤ k ∧ k ≤ 18) ∧ j = t + 1)) σ σ' → σ'.1 0 13 = nI (t + 1) → mQu σ' K i (t + 1) (frs kd cd (fun _ => 0)) m → post σ') (hK2 : 2 ≤ K) : gM l v lyM 33 me_M_open (n + 2) [.ref (v.2.2 0), .int (nI kd), .int (nI (cd m))] σ (qV v lyM 33 post) := by
  have hin : vp_in (nI (t + 1)) 6 := vp_in_nI (by omega) (by decide)
  refine E_M_open (T_M_open_0 ?_)
  rw [h13, nI_1, nI_clamp (by omega)]
  refine ⟨hin, hin, k_fresh (by omega) (fun τ hX a8 a10 a12 a14 a16 a18 => hp τ ((((sX.rf.I (by omega)).I (by omega)).I (by omega)).tr (hX.mono (fun k j h => by omega))) ?_ ?_)⟩
  · rw [(hX 0 13 (by omega)).1, pI_k (by decide), pI_k (by decide), pI_eq]
  · refine mF_frs (by omega) hcd (fun _ => by omega) ?_ (fun _ => ?_) (fun h => by omega) a8 a10 a12 a14 a16 a18
    · rw [(hX 5 _ (by omega)).1, pI_k (by decide), pI_eq]
    · rw [(hX 6 _ (by omega)).1, pI_eq]
theorem mH.oper {τ : gs_S} {t c L : Nat} (h : mH σ i t f m) (hnt : f.2.2.1 = false) (hX : ∀ k, k = 5 ∨ k = 6 ∨ k = 7 ∨ k = 8 → τ.1 k t = σ.1 k t) : mH τ (i + 1) t (oper K c L f) m := h.kept (by omega) rfl hnt.symm (hX 5 (by omega)) (hX 6 (by omega)) (hX 7 (by omega)) (hX 8 (by omega))
theorem k_goesOn {post : Int32 → gs_S → Prop} {c : Nat} (hK2 : 2 ≤ K) (hK4 : K ≤ 4) (hc : c < 128) (hi : i < 64) (h10 : σ.1 0 10 = nI K) (hS : mSt σ K i m false (f :: r)) (hp0 : gon K c f r = none → ∀ σ', fG σ σ' → post 0 σ') (hp1 : ∀ d' fs' σ', gon K c f r = some (d', fs') → fG σ σ' → mSt σ' K (i + 1) m d' fs' → post 1 σ') : gM l v lyM 33 me_M_goesOn (n + 7) [.ref (v.2.2 0), .int (nI c)] σ (qI v lyM 33 post) := by
  have hS' := hS
  obtain ⟨h13, hl, _, hD, hr, hb⟩ := hS'
  have hD := hD rfl
  have hD' := hD
  obtain ⟨hf, hx, hnt, hH, ⟨hp10, hp9⟩, u1, u2, u3, u4⟩ := hD'
  have hin : vp_in (nI r.length) 6 := vp_in_nI (by omega) (by decide)
  have rest : ∀ τ, (∀ k j, j < r.length → 5 ≤ k → k ≤ 18 → τ.1 k j = σ.1 k j) → mS τ K (i + 1) m r := fun τ h => mS.kept (by omega) r hr (fun j hj k h1 h2 => h k j hj h1 h2)
  -- an operator of level L
  have op : ∀ L, lv c = L → L < 5 → (L = 2 → f.2.1 2 = none) → gon K c f r = some (true, oper K c L f :: r) := fun L e h5 h2 => by
    unfold gon
    rw [if_pos (by omega), if_neg, e]
    intro ⟨z1, z2⟩
    exact z2 (h2 (by omega))
  have opSt : ∀ L τ, lv c = L → fG σ τ → (∀ k j, j < r.length → 5 ≤ k → k ≤ 18 → τ.1 k j = σ.1 k j) → τ.1 0 13 = nI r.length → (∀ k, k = 5 ∨ k = 6 ∨ k = 7 ∨ k = 8 → τ.1 k r.length = σ.1 k r.length) → ac τ 9 10 r.length ((oper K c L f).2.1 4) (fun _ => 1) m → mU τ r.length (oper K c L f) m → mSt τ K (i + 1) m true (oper K c L f :: r) := fun L τ e hX hlo a13 h58 hac hU => ⟨a13, hl, fun _ => ⟨hf.oper hK2 hx e, hH.oper hnt h58, hac, hU⟩, fun h => absurd h (by decide), rest τ hlo, by
      rcases hb with z | z
      · exact Or.inl ⟨z.1, z.2⟩
      · exact Or.inr z⟩
  refine E_M_goesOn (T_M_goesOn_0 ?_)
  rw [show (43 : Int32) = nI 43 from rfl, show (45 : Int32) = nI 45 from rfl, show (61 : Int32) = nI 61 from rfl, show (60 : Int32) = nI 60 from rfl, show (38 : Int32) = nI 38 from rfl, show (124 : Int32) = nI 124 from rfl, show (63 : Int32) = nI 63 from rfl, show (58 : Int32) = nI 58 from rfl, show (41 : Int32) = nI 41 from rfl, show (42 : Int32) = nI 42 from rfl]
  rw [chq hc (d := 43) (by decide), chq hc (d := 45) (by decide), chq hc (d := 61) (by decide), chq hc (d := 60) (by decide), chq hc (d := 38) (by decide), chq hc (d := 124) (by decide), chq hc (d := 63) (by decide), chq hc (d := 58) (by decide), chq hc (d := 41) (by decide), chq hc (d := 42) (by decide)]
  have sum : lv c = 3 → G_M_goesOn_12 l v (n + 6) post σ (nI c) := fun e3 => by
    refine T_M_goesOn_12 (k_endProduct hK2 hK4 h13 h10 (by omega) hD (fun τ hX a11 a10 => ?_))
    have go : ∀ z : Int32, z = (if c = 43 then 1 else 2) → G_M_goesOn_35 l v (n + 6) post τ z (τ.1 0 13) := fun z hz => by
      refine T_M_goesOn_35 ?_
      rw [(hX 0 13 (by omega)).1, h13, nI_clamp (by omega)]
      refine ⟨hin, T_M_goesOn_268 (hp1 true _ _ (op 3 e3 (by decide) (fun z => absurd z (by decide))) ((hX.mono (fun k j h => by omega)).I (by omega)) (opSt 3 _ e3 ((hX.mono (fun k j h => by omega)).I (by omega)) (fun k j hj h1 h2 => ?_) ?_ (fun k hk => ?_) ?_ ⟨?_, ?_, ?_, ?_⟩))⟩
      · by_cases e : k = 12
        · subst e; rw [pI_j (by omega), (hX 12 j (by omega)).1]
        · rw [pI_k e, (hX k j (by omega)).1]
      · rw [pI_k (by decide), (hX 0 13 (by omega)).1]; exact h13
      · rw [pI_k (by omega), (hX k _ (by omega)).1]
      · refine ac_none (oper_hi (by decide)) ?_
        rw [pI_k (by decide)]; exact a10
      · refine ac_some oper_at ?_ ?_
        · rw [pI_k (by decide)]; exact a11
        · rw [pI_eq]; exact hz
      · rw [oper_lo (by decide)]
        exact u2.kept (by rw [pI_k (by decide), (hX 13 _ (by omega)).1]) (by rw [pI_k (by decide), (hX 14 _ (by omega)).1])
      · rw [oper_lo (by decide)]
        exact u3.kept (by rw [pI_k (by decide), (hX 15 _ (by omega)).1]) (by rw [pI_k (by decide), (hX 16 _ (by omega)).1])
      · rw [oper_lo (by decide)]
        exact u4.kept (by rw [pI_k (by decide), (hX 17 _ (by omega)).1]) (by rw [pI_k (by decide), (hX 18 _ (by omega)).1])
    rw [show (43 : Int32) = nI 43 from rfl, chq hc (d := 43) (by decide)]
    exact ⟨fun h => go _ (by rw [if_neg h]), fun h => go _ (by rw [if_pos h])⟩
  have test : lv c = 2 → G_M_goesOn_51 l v (n + 6) post σ (nI c) := fun e2 => by
    refine T_M_goesOn_51 ?_
    rw [h13, nI_clamp (by omega)]
    refine ⟨hin, ?_⟩
    cases hA : f.2.1 2 with
    | some acv =>
      have h2 := (u2.2 acv.1 acv.2 hA).2
      refine br_f ?_ (hp0 ?_ σ sX.rf)
      · rw [h2]
        show ¬ (if acv.2 = 61 then 1 else 2 : Int32) ≤ 0
        split <;> decide
      · unfold gon
        rw [if_pos (by omega), if_pos ⟨e2, by rw [hA]; exact Option.some_ne_none _⟩]
    | none =>
      refine br_t (by rw [u2.1 hA]; decide) (k_endSum hK2 hK4 h13 h10 (by omega) hD (fun τ hX a10 a12 => ⟨hin, ?_⟩))
      have go : ∀ z : Int32, z = (if c = 61 then 1 else 2) → G_M_goesOn_97 l v (n + 6) post (gs_pI τ 13 r.length (nI (vL K f 3 m))) z (τ.1 0 13) := fun z hz => by
        refine T_M_goesOn_97 ?_
        rw [(hX 0 13 (by omega)).1, h13, nI_clamp (by omega)]
        have hXX : fG σ (gs_pI (gs_pI τ 13 r.length (nI (vL K f 3 m))) 14 r.length z) := ((hX.mono (fun k j h => by omega)).I (by omega)).I (by omega)
        refine ⟨hin, T_M_goesOn_268 (hp1 true _ _ (op 2 e2 (by decide) (fun _ => hA)) hXX (opSt 2 _ e2 hXX (fun k j hj h1 h2 => ?_) ?_ (fun k hk => ?_) ?_ ⟨?_, ?_, ?_, ?_⟩))⟩
        · by_cases e : k = 14
          · subst e; rw [pI_j (by omega), pI_k (by decide), (hX 14 j (by omega)).1]
          · rw [pI_k e]
            by_cases e' : k = 13
            · subst e'; rw [pI_j (by omega), (hX 13 j (by omega)).1]
            · rw [pI_k e', (hX k j (by omega)).1]
        · rw [pI_k (by decide), pI_k (by decide), (hX 0 13 (by omega)).1]; exact h13
        · rw [pI_k (by omega), pI_k (by omega), (hX k _ (by omega)).1]
        · refine ac_none (oper_hi (by decide)) ?_
          rw [pI_k (by decide), pI_k (by decide)]; exact a10
        · refine ac_none (oper_hi (by decide)) ?_
          rw [pI_k (by decide), pI_k (by decide)]; exact a12
        · refine ac_some oper_at ?_ ?_
          · rw [pI_k (by decide), pI_eq, vL_none (L := 2) (by decide) hA]
          · rw [pI_eq]; exact hz
        · rw [oper_lo (by decide)]
          exact u3.kept (by rw [pI_k (by decide), pI_k (by decide), (hX 15 _ (by omega)).1]) (by rw [pI_k (by decide), pI_k (by decide), (hX 16 _ (by omega)).1])
        · rw [oper_lo (by decide)]
          exact u4.kept (by rw [pI_k (by decide), pI_k (by decide), (hX 17 _ (by omega)).1]) (by rw [pI_k (by decide), pI_k (by decide), (hX 18 _ (by omega)).1])
      rw [show (61 : Int32) = nI 61 from rfl, chq hc (d := 61) (by decide)]
      exact ⟨fun h => go _ (by rw [if_neg h]), fun h => go _ (by rw [if_pos h])⟩
  refine ⟨fun e => sum (by subst e; decide), fun n43 => ⟨fun n45 => ⟨fun e => test (by subst e; decide), fun n61 => ⟨fun n60 => ⟨fun n38 => ⟨fun n124 => ⟨fun n63 => ⟨fun n58 => ⟨fun n41 => ⟨fun n42 => T_M_goesOn_267 ⟨nar_b0, hp0 ?_ σ sX.rf⟩, fun e42 => T_M_goesOn_267 ⟨nar_b1, ?_⟩⟩, fun e41 => ?_⟩, fun e58 => ?_⟩, fun e63 => ?_⟩, fun e124 => ?_⟩, fun e38 => ?_⟩, fun e => test (by subst e; decide)⟩⟩, fun e => sum (by subst e; decide)⟩⟩
  · unfold gon
    have : lv c = 5 := by
      unfold lv
      rw [if_neg n124, if_neg n38, if_neg (fun z => z.elim n61 n60), if_neg (fun z => z.elim n43 n45), if_neg n42]
    rw [if_neg (by omega), if_neg n63, if_neg n58, if_neg n41]
  · have e4 : lv c = 4 := by subst e42; decide
    refine hp1 true _ σ (op 4 e4 (by decide) (fun z => absurd z (by decide))) sX.rf (opSt 4 σ e4 sX.rf (fun _ _ _ _ _ => rfl) h13 (fun _ _ => rfl) (ac_some oper_at hp9 hp10) ⟨?_, ?_, ?_, ?_⟩)
    · rw [oper_lo (by decide)]; exact u1
    · rw [oper_lo (by decide)]; exact u2
    · rw [oper_lo (by decide)]; exact u3
    · rw [oper_lo (by decide)]; exact u4
  · -- a bracket closes
    refine k_endChoice hK2 hK4 h10 hS (fun w' kd cd r' τ he hX b13 bl b5 bk3 bk3' b6 bcd bw bS bb => ?_)
    rw [b13, nI_clamp (by omega), b5]
    refine ⟨vp_in_nI (by omega) (by decide), ?_⟩
    rw [show (nI kd = 1 ↔ kd = 1) from nI_nat (b := 1) (by omega) (by decide)]
    have hg : gon K c f r = if kd = 1 then (match r' with
      | [] => none
      | g :: r'' => some (false, opd K w' g :: r'')) else none := by
      unfold gon
      rw [e41, he, if_neg (by decide), if_neg (by decide), if_neg (by decide), if_pos rfl]
      all_goals (cases r' <;> rfl)
    refine ⟨fun e1 => ?_, fun ne1 => hp0 (by rw [hg, if_neg ne1]) τ (hX.mono (fun k j h => by omega))⟩
    rw [if_pos e1] at hg
    have hbr := bb (by omega)
    cases r' with
    | nil => exact hbr.elim
    | cons g r'' =>
      rw [List.length_cons, nI_pred]
      rw [List.length_cons] at bl
      have hX1 : fG σ (gs_pI τ 0 13 (nI r''.length)) := (hX.mono (fun k j h => by omega)).I (by omega)
      refine k_operand (n := n + 5) hK2 hK4 pI_eq (by rw [pI_j (by decide), (hX 0 10 (by omega)).1]; exact h10) (by omega) (by omega) (bS.1.kept (i' := i) (Nat.le_refl _) (fun k h1 h2 => by rw [pI_k (by omega)])) bw (fun τ2 hX2 hD2 => T_M_goesOn_268 (hp1 false _ τ2 hg (hX1.tr (hX2.mono (fun k j h => by omega))) ⟨?_, by omega, fun h => absurd h (by decide), fun _ => ?_, ?_, ?_⟩))
      · rw [(hX2 0 13 (by omega)).1, pI_eq]
      · obtain ⟨d1, d2, d3, d4, d5⟩ := hD2
        exact ⟨d1, d2, d3, d4.kept (by omega) rfl rfl rfl rfl rfl rfl, d5⟩
      · exact mS.kept (by omega) r'' bS.2 (fun j hj k h1 h2 => by rw [(hX2 k j (by omega)).1, pI_k (by omega)])
      · rcases hbr with z | z
        · exact Or.inl ⟨z.1, z.2⟩
        · exact Or.inr z
  · -- a colon
    refine k_endChoice hK2 hK4 h10 hS (fun w' kd cd r' τ he hX b13 bl b5 bk3 bk3' b6 bcd bw bS bb => ?_)
    rw [b13, nI_clamp (by omega), b5]
    refine ⟨vp_in_nI (by omega) (by decide), ?_⟩
    rw [show (nI kd = 2 ↔ kd = 2) from nI_nat (b := 2) (by omega) (by decide)]
    have hg : gon K c f r = if kd = 2 then some (true, frs 3 cd w' :: r') else none := by
      unfold gon
      rw [e58, he, if_neg (by decide), if_neg (by decide), if_pos rfl]
    refine ⟨fun e1 => ⟨vp_in_nI (by omega) (by decide), vp_in_nI (by omega) (by decide), ?_⟩, fun ne1 => hp0 (by rw [hg, if_neg ne1]) τ (hX.mono (fun k j h => by omega))⟩
    rw [if_pos e1] at hg
    have hbr := bb (by omega)
    have hX1 : fG σ (gs_pI (gs_pI τ 7 r'.length (nI (w' m))) 5 r'.length 3) := ((hX.mono (fun k j h => by omega)).I (by omega)).I (by omega)
    refine k_fresh (n := n + 5) (by omega) (fun τ2 hX2 a8 a10 a12 a14 a16 a18 => T_M_goesOn_268 (hp1 true _ τ2 hg (hX1.tr (hX2.mono (fun k j h => by omega))) ⟨?_, by omega, fun _ => ?_, fun h => absurd h (by decide), ?_, Or.inr hbr⟩))
    · rw [(hX2 0 13 (by omega)).1, pI_k (by decide), pI_k (by decide)]; exact b13
    · refine mF_frs (Nat.le_refl _) bcd bw ?_ (fun _ => ?_) (fun _ => ?_) a8 a10 a12 a14 a16 a18
      · rw [(hX2 5 _ (by omega)).1, pI_eq]; rfl
      · rw [(hX2 6 _ (by omega)).1, pI_k (by decide), pI_k (by decide)]; exact b6 (by omega)
      · rw [(hX2 7 _ (by omega)).1, pI_k (by decide), pI_eq]
    · refine mS.kept (by omega) r' bS (fun j hj k h1 h2 => ?_)
      rw [(hX2 k j (by omega)).1]
      by_cases e : k = 5
      · subst e; rw [pI_j (by omega), pI_k (by decide)]
      · rw [pI_k e]
        by_cases e' : k = 7
        · subst e'; rw [pI_j (by omega)]
        · rw [pI_k e']
  · -- a question
    rw [h13, show (nI r.length = 4 ↔ r.length = 4) from nI_nat (b := 4) (by omega) (by decide)]
    have hg : gon K c f r = if r.length < 4 then some (true, frs 2 (vL K f 0) (fun _ => 0) :: (f.1, (fun _ => none), false, f.2.2.2) :: r) else none := by
      unfold gon
      rw [e63, if_neg (by decide), if_pos rfl]
    refine ⟨fun ne => ?_, fun eq => hp0 (by rw [hg, if_neg (by omega)]) σ sX.rf⟩
    rw [if_pos (by omega)] at hg
    refine k_endEither (n := n + 1) hK2 hK4 h13 h10 (by omega) hD (fun τ hX a10 a12 a14 a16 a18 => ?_)
    refine k_M_open (n := n + 4) (i := i + 1) (kd := 2) (cd := vL K f 0) (t := r.length) hl ((hX 0 13 (by omega)).1.trans h13) (Or.inr rfl) (fun n => vL_lt hK2 hf hx 0 n) (fun τ2 hX2 b13 bF => ?_) hK2
    have hXX : fG σ τ2 := (hX.mono (fun k j h => by omega)).tr (hX2.mono (fun k j h => by omega))
    refine T_M_goesOn_268 (hp1 true _ τ2 hg hXX ⟨b13, by rw [List.length_cons]; omega, fun _ => bF, fun h => absurd h (by decide), ⟨⟨⟨fun L a c h => absurd h (by simp), hf.2.1, hf.2.2.1, hf.2.2.2⟩, ?_, ac_none rfl ?_, ac_none rfl ?_, ac_none rfl ?_, ac_none rfl ?_, ac_none rfl ?_⟩, ?_⟩, Or.inr ?_⟩)
    · exact hH.kept (by omega) rfl hnt.symm (by rw [(hX2 5 _ (by omega)).1, (hX 5 _ (by omega)).1]) (by rw [(hX2 6 _ (by omega)).1, (hX 6 _ (by omega)).1]) (by rw [(hX2 7 _ (by omega)).1, (hX 7 _ (by omega)).1]) (by rw [(hX2 8 _ (by omega)).1, (hX 8 _ (by omega)).1])
    · rw [(hX2 10 _ (by omega)).1]; exact a10
    · rw [(hX2 12 _ (by omega)).1]; exact a12
    · rw [(hX2 14 _ (by omega)).1]; exact a14
    · rw [(hX2 16 _ (by omega)).1]; exact a16
    · rw [(hX2 18 _ (by omega)).1]; exact a18
    · exact rest τ2 (fun k j hj h1 h2 => by rw [(hX2 k j (by omega)).1, (hX k j (by omega)).1])
    · rcases hb with z | z
      · exact Or.inl ⟨z.1, z.2⟩
      · exact Or.inr z
  · -- or
    have e0 : lv c = 0 := by subst e124; decide
    refine k_endBoth (n := n + 2) hK2 hK4 h13 h10 (by omega) hD (fun τ hX a10 a12 a14 a16 a17 a18 => T_M_goesOn_268 (hp1 true _ τ (op 0 e0 (by decide) (fun z => absurd z (by decide))) (hX.mono (fun k j h => by omega)) (opSt 0 τ e0 (hX.mono (fun k j h => by omega)) (fun k j hj h1 h2 => (hX k j (by omega)).1) ((hX 0 13 (by omega)).1.trans h13) (fun k hk => (hX k _ (by omega)).1) (ac_none (oper_hi (by decide)) a10) ⟨ac_none (oper_hi (by decide)) a12, ac_none (oper_hi (by decide)) a14, ac_none (oper_hi (by decide)) a16, ac_some oper_at a17 a18⟩)))
  · -- and
    have e1 : lv c = 1 := by subst e38; decide
    refine k_endTest (n := n + 3) hK2 hK4 h13 h10 (by omega) hD (fun τ hX a10 a12 a14 a15 a16 => T_M_goesOn_268 (hp1 true _ τ (op 1 e1 (by decide) (fun z => absurd z (by decide))) (hX.mono (fun k j h => by omega)) (opSt 1 τ e1 (hX.mono (fun k j h => by omega)) (fun k j hj h1 h2 => (hX k j (by omega)).1) ((hX 0 13 (by omega)).1.trans h13) (fun k hk => (hX k _ (by omega)).1) (ac_none (oper_hi (by decide)) a10) ⟨ac_none (oper_hi (by decide)) a12, ac_none (oper_hi (by decide)) a14, ac_some oper_at a15 a16, ?_⟩)))
    rw [oper_lo (by decide)]
    exact u4.kept (hX 17 _ (by omega)).1 (hX 18 _ (by omega)).1
end K34
