/-! The reference's rows cleared, its weights; conserved and weight. -/
section K29
variable {l : Launch} {v : gs_V} {n : Nat} {σ : gs_S} {K W : Nat} {tb : Nat → Nat}
abbrev fCl (σ σ' : gs_S) : Prop := sX (fun k _ => k = 23 ∨ k = 24) σ σ'
theorem k_clearRow {post : gs_S → Prop} {T : Nat → Nat → Int} {s : Nat} (hT : tri K T) (hs : s + 1 < 4) (hpv : T (s + 1) (s + 1) ≠ 0) (hM : mM σ T (clA T s)) (hp : ∀ σ', fCl σ σ' → mM σ' T (clA T (s + 1)) → post σ') : gM l v lyM 33 me_M_clearRow (n + 3) [.ref (v.2.2 0), .int (nI (s + 1))] σ (qV v lyM 33 post) := by
  have hA := clA_ok hT (b0_ok T) s (by omega)
  have eT : clA T s (s + 1) = T (s + 1) := (hA (s + 1) (by omega) hs).2 (Or.inl (by omega))
  have eF : ∀ t, clA T (s + 1) t = if t = s + 1 then clF T (clA T s) (clA T s (s + 1)) s else clA T s t := fun t => by
    show (if T (s + 1) (s + 1) ≠ 0 then (fun t => if t = s + 1 then clF T (clA T s) (clA T s (s + 1)) s else clA T s t) else clA T s) t = _
    rw [if_pos hpv]
  have hMk : ∀ τ, sX (fun k _ => k = 24) σ τ → mM τ T (clA T s) := fun τ hX t t1 t2 => by
    rw [(hX 22 t (by omega)).1]
    exact ⟨(hM t t1 t2).1, fun z i i1 i2 => by rw [(hX 23 (4 * t + i) (by omega)).2.1]; exact (hM t t1 t2).2 z i i1 i2⟩
  -- the row goes back
  have L3 : ∀ i, i ≤ 4 → 1 ≤ i → ∀ τ, fCl σ τ → (∀ j, 1 ≤ j → j < 4 → τ.2.1 24 j = iL (clA T (s + 1) (s + 1) j)) → (∀ j, 1 ≤ j → j < i → τ.2.1 23 (4 * (s + 1) + j) = iL (clA T (s + 1) (s + 1) j)) → (∀ j, (j < 4 * (s + 1) ∨ 4 * (s + 1) + 4 ≤ j) → τ.2.1 23 j = σ.2.1 23 j) → G_M_clearRow_71 l v (n + 2) post τ (nI (s + 1)) (nI i) := by
    refine dn ?_ ?_
    · intro _ τ hX a1 a2 a3
      refine T_M_clearRow_71 (br_t (by decide) (hp τ hX (fun t t1 t2 => ?_)))
      rw [(hX 22 t (by omega)).1]
      refine ⟨(hM t t1 t2).1, fun z i i1 i2 => ?_⟩
      by_cases q : t = s + 1
      · subst q; exact a2 i i1 i2
      · rw [a3 _ (by omega), eF, if_neg q]
        exact (hM t t1 t2).2 z i i1 i2
    · intro i hi ih h1 τ hX a1 a2 a3
      refine T_M_clearRow_71 (br_f (nI_ge (a := i) (b := 4) hi (by decide)) ⟨vp_in_nI hi (by decide), ?_⟩)
      rw [i4, nI_clamp (n := i) (by omega), nI_clamp (n := 4 * (s + 1) + i) (by omega), nI_1, a1 i h1 hi]
      refine ⟨vp_in_nI (by omega) (by decide), ih (by omega) _ (hX.L (Or.inl rfl)) (fun j j1 j2 => by rw [pL_k (by decide)]; exact a1 j j1 j2) (fun j h2 h3 => ?_) (fun j hj => ?_)⟩
      · by_cases z : j = i
        · subst z; rw [pL_eq]
        · rw [pL_j (by omega)]; exact a2 j h2 (by omega)
      · rw [pL_j (by omega)]; exact a3 j hj
  have L2 : ∀ i, i < s + 1 → ∀ r τ, sX (fun k _ => k = 24) σ τ → (∀ j, 1 ≤ j → j < 4 → τ.2.1 24 j = iL (r j)) → cIr T b0 (s + 1) i r → clF T (clA T s) r i = clA T (s + 1) (s + 1) → G_M_clearRow_33 l v (n + 2) post τ (nI (s + 1)) (nI i) := by
    intro i
    induction i with
    | zero =>
      intro _ r τ hX hr _ hE
      have hE : r = clA T (s + 1) (s + 1) := hE
      refine T_M_clearRow_33 (br_t (by decide) (L3 1 (by decide) (Nat.le_refl _) τ (hX.mono (fun k j h => Or.inr h)) ?_ (fun j h1 h2 => absurd h1 (by omega)) (fun j _ => (hX 23 j (by omega)).2.1)))
      rw [← hE]; exact hr
    | succ i ih =>
      intro his r τ hX hr hc hE
      have hMτ := hMk τ hX
      have hi4 : i + 1 < 4 := by omega
      have h1 : 1 ≤ i + 1 := by omega
      have hb0 := b0_le (s + 1) (i + 1)
      have bdr : bd (r (i + 1)) := bd_n (by have := hc.2.2.2.2 (i + 1) hi4; omega)
      have hE' : (if T (i + 1) (i + 1) ≠ 0 ∧ r (i + 1) ≠ 0 then clF T (clA T s) (red r (clA T s (i + 1)) (i + 1)) i else clF T (clA T s) r i) = clA T (s + 1) (s + 1) := hE
      have hin : vp_in (nI (i + 1)) 4 := vp_in_nI hi4 (by decide)
      refine T_M_clearRow_33 (br_f (nI_ge (a := 0) (b := i + 1) (by omega) (by omega)) ⟨hin, ?_⟩)
      rw [nI_clamp (by omega), (hMτ (i + 1) h1 hi4).1, hr _ h1 hi4, iL_eq0 bdr]
      have skip : (T (i + 1) (i + 1) = 0 ∨ r (i + 1) = 0) → G_M_clearRow_63 l v (n + 2) post τ (nI (s + 1)) (nI (i + 1)) := fun q => T_M_clearRow_63 (by
        rw [nI_dn]
        refine ih (by omega) r τ hX hr (cI_skip (b0_ok T) hs his hc q) ?_
        rw [← hE', if_neg (fun z => q.elim z.1 z.2)])
      refine ⟨fun q => skip (Or.inl q), fun q => ⟨hin, fun q2 => skip (Or.inr q2), fun q2 => ?_⟩⟩
      have hci := (hA (i + 1) h1 hi4).1 (by omega) q
      have hbb := ((b0_ok T).2 (s + 1) i hs his).1 q
      have hb1 := b0_le (s + 1) i
      refine k_reduce (e := r) (r := clA T s (i + 1)) (m := b0 (s + 1) (i + 1)) (k := b0 (i + 1) 0) h1 hi4 hc.1 hci.1 hr ((hMτ (i + 1) h1 hi4).2 q) hc.2.2.2.2 hci.2.2.2.2 (by omega) (fun τ2 hX2 h2 => T_M_clearRow_63 ?_)
      rw [nI_dn]
      refine ih (by omega) _ τ2 (hX.tr hX2) h2 (cI_red (b0_ok T) hs his hc hci q) ?_
      rw [← hE', if_pos ⟨q, q2⟩]
  have L1 : ∀ i, i ≤ 4 → 1 ≤ i → ∀ τ, sX (fun k _ => k = 24) σ τ → (∀ j, 1 ≤ j → j < i → τ.2.1 24 j = iL (clA T s (s + 1) j)) → G_M_clearRow_2 l v (n + 2) post τ (nI (s + 1)) (nI i) := by
    refine dn ?_ ?_
    · intro _ τ hX a1
      refine T_M_clearRow_2 (br_t (by decide) ?_)
      rw [nI_pred]
      refine L2 s (by omega) (clA T s (s + 1)) τ hX a1 ?_ ?_
      · rw [eT]; exact cI_first hT (b0_ok T) (by omega) hs hpv
      · rw [eF, if_pos rfl]
    · intro i hi ih h1 τ hX a1
      refine T_M_clearRow_2 (br_f (nI_ge (a := i) (b := 4) hi (by decide)) ?_)
      rw [i4, nI_clamp (n := i) (by omega), nI_clamp (n := 4 * (s + 1) + i) (by omega), nI_1, ((hMk τ hX) (s + 1) (by omega) hs).2 hpv i h1 hi]
      refine ⟨vp_in_nI (by omega) (by decide), vp_in_nI hi (by decide), ih (by omega) _ (hX.L rfl) (fun j h2 h3 => ?_)⟩
      by_cases z : j = i
      · subst z; rw [pL_eq]
      · rw [pL_j z]; exact a1 j h2 (by omega)
  exact E_M_clearRow (T_M_clearRow_0 (L1 1 (by decide) (Nat.le_refl _) σ sX.rf (fun j h1 h2 => absurd h1 (by omega))))
def wM (σ : gs_S) (K W : Nat) (tb : Nat → Nat) : Prop := σ.1 0 36 = nI (fr (tT K W tb) K) ∧ ∀ f, 1 ≤ f → f < K → tT K W tb f f = 0 → ∃ w, sol (tT K W tb) f w ∧ ∀ i, i < 4 → σ.1 21 (4 * fr (tT K W tb) f + i) = (iL (w i)).toInt32
def mWt (σ : gs_S) (K W : Nat) (tb : Nat → Nat) : Prop := σ.1 0 35 = 0 ∨ (σ.1 0 35 = 1 ∧ wM σ K W tb)
abbrev fMw (σ σ' : gs_S) : Prop := sX (fun k j => (k = 0 ∧ (j = 35 ∨ j = 36)) ∨ (21 ≤ k ∧ k ≤ 24)) σ σ'
theorem mWt.kept {σ' : gs_S} {S : Nat → Nat → Prop} (h : mWt σ K W tb) (hX : sX S σ σ') (h5 : ¬ S 0 35) (h6 : ¬ S 0 36) (h21 : ∀ j, ¬ S 21 j) : mWt σ' K W tb := by
  rcases h with h | ⟨h1, h2, h3⟩
  · exact Or.inl ((hX 0 35 h5).1.trans h)
  · refine Or.inr ⟨(hX 0 35 h5).1.trans h1, (hX 0 36 h6).1.trans h2, fun f f1 f2 f3 => ?_⟩
    obtain ⟨w, a, b⟩ := h3 f f1 f2 f3
    exact ⟨w, a, fun i hi => (hX _ _ (h21 _)).1.trans (b i hi)⟩
theorem lcm_div {a b : Nat} : a / Nat.gcd a b * b = Nat.lcm a b := by
  unfold Nat.lcm
  exact Nat.div_mul_right_comm (Nat.gcd_dvd_left a b) b
/-- one weight is written -/
theorem k_oneWeight {post : gs_S → Prop} {T : Nat → Nat → Int} {f : Nat} (hR : okR K W tb) (hC : mR σ K W tb) (hT : tri K T) (hM : mM σ T (clA T (K - 1))) (hf1 : 1 ≤ f) (hfK : f < K) (hf : T f f = 0) (h36 : σ.1 0 36 = nI (fr T f)) (hp : ∀ σ' w, sX (fun k j => (k = 0 ∧ j = 36) ∨ (k = 21 ∧ 4 * fr T f ≤ j ∧ j < 4 * fr T f + 4)) σ σ' → σ'.1 0 36 = nI (fr T f + 1) → sol T f w → (∀ i, i < 4 → σ'.1 21 (4 * fr T f + i) = (iL (w i)).toInt32) → G_M_findWeights_346 l v (n + 1) post σ' (nI f)) : G_M_findWeights_117 l v (n + 1) post σ (nI f) 1 1 := by
  have hK := hR.2.1
  have hK2 := hR.1
  have hA := clA_ok hT (b0_ok T) (K - 1) (by omega)
  have hsol := w9_sol hT hK hf1 hfK hf
  have hsm : ∀ i, 1 ≤ i → i < K → T i i ≠ 0 → (clA T (K - 1) i f).natAbs ≤ 2 ^ 14 ∧ (f < i → (clA T (K - 1) i i).natAbs ≤ 2 ^ 14) ∧ (i < f → clA T (K - 1) i f = 0) := fun i h1 h2 h3 => by
    have nf : i ≠ f := fun e => by subst e; exact h3 hf
    rcases (show i < f ∨ f < i by omega) with z | z
    · have e := ((hA i h1 (by omega)).1 (by omega) h3).2.2.1 f z (by omega)
      refine ⟨by rw [e]; decide, fun q => by omega, fun _ => e⟩
    · have := clA_small hT hf1 hf (s := K - 1) (t := i) (by omega) (by omega) z h3
      exact ⟨this f (by omega), fun _ => this i (by omega), fun q => by omega⟩
  have hbA : ∀ i, 1 ≤ i → i < K → T i i ≠ 0 → bd (clA T (K - 1) i i) := fun i h1 h2 h3 => bd_n (by
    have a := ((hA i h1 (by omega)).1 (by omega) h3).2.2.2.2 i (by omega)
    have b := b0_le i 0
    omega)
  have hpart : ∀ i, 1 ≤ i → i ≤ K - 1 → part9 T (clA T (K - 1)) f i ≤ 2 ^ 14 := fun i h1 h2 => by
    by_cases q : T i i = 0
    · have : part9 T (clA T (K - 1)) f i = 1 := by
        unfold part9 pA9 pB9
        rw [if_pos q, if_pos q]; decide
      rw [this]; decide
    · have e : part9 T (clA T (K - 1)) f i = (clA T (K - 1) i i).natAbs / Nat.gcd (clA T (K - 1) i i).natAbs (clA T (K - 1) i f).natAbs := by
        unfold part9 pA9 pB9
        rw [if_neg q, if_neg q]
      have nf : i ≠ f := fun e => by subst e; exact q hf
      rcases (show i < f ∨ f < i by omega) with z | z
      · rw [e, (hsm i h1 (by omega) q).2.2 z]
        show (clA T (K - 1) i i).natAbs / Nat.gcd (clA T (K - 1) i i).natAbs 0 ≤ _
        rw [Nat.gcd_zero_right]
        have : (clA T (K - 1) i i).natAbs / (clA T (K - 1) i i).natAbs ≤ 1 := by
          rcases Nat.eq_zero_or_pos (clA T (K - 1) i i).natAbs with z2 | z2
          · rw [z2]; decide
          · rw [Nat.div_self z2]; decide
        exact Nat.le_trans this (by decide)
      · rw [e]
        exact Nat.le_trans (Nat.div_le_self _ _) ((hsm i h1 (by omega) q).2.1 z)
  have hpos : ∀ i, 1 ≤ i → i ≤ K - 1 → T i i ≠ 0 → clA T (K - 1) i i ≠ 0 := fun i h1 h2 h3 => ((hA i h1 (by omega)).1 h2 h3).2.1
  have hUle : ∀ m, m ≤ K - 1 → uF T (clA T (K - 1)) f m ≤ 2 ^ 42 := fun m hm => by
    have a := uF_le (T := T) (R := clA T (K - 1)) (f := f) (b := 2 ^ 14) m (fun i h1 h2 => hpart i h1 (by omega))
    have b : (2 ^ 14) ^ m ≤ (2 ^ 14) ^ 3 := Nat.pow_le_pow_right (by decide) (by omega)
    exact Nat.le_trans a (Nat.le_trans b (by decide))
  generalize hRR : clA T (K - 1) = R at *
  have L1 : ∀ i, i ≤ K → 1 ≤ i → G_M_findWeights_117 l v (n + 1) post σ (nI f) (iL ((uF T R f (i - 1) : Nat) : Int)) (nI i) := by
    refine dn ?_ ?_
    · intro _
      refine T_M_findWeights_117 (br_t (by rw [hC.1]; exact nI_le (Nat.le_refl _) (by omega)) ?_)
      have hU := hUle (K - 1) (Nat.le_refl _)
      generalize uF T R f (K - 1) = U at hU hsol ⊢
      have hfl := fr_le (T := T) f
      have L2 : ∀ i, i ≤ 4 → ∀ τ, sX (fun k j => k = 21 ∧ 4 * fr T f ≤ j ∧ j < 4 * fr T f + 4) σ τ → (∀ j, j < i → τ.1 21 (4 * fr T f + j) = (iL (w9 K T R f U j)).toInt32) → G_M_findWeights_231 l v (n + 1) post τ (nI f) (iL ((U : Nat) : Int)) (nI i) := by
        refine dn ?_ ?_
        · intro τ hX a1
          have e36 : τ.1 0 36 = nI (fr T f) := (hX 0 36 (by omega)).1.trans h36
          refine T_M_findWeights_231 (br_t (by decide) ?_)
          rw [e36, nI_1]
          refine hp _ _ ((hX.mono (fun k j h => Or.inr h)).I (Or.inl ⟨rfl, rfl⟩)) pI_eq hsol (fun i hi => ?_)
          rw [pI_k (by decide)]; exact a1 i hi
        · intro i hi ih τ hX a1
          have e36 : τ.1 0 36 = nI (fr T f) := (hX 0 36 (by omega)).1.trans h36
          have write : ∀ x : Int32, x = (iL (w9 K T R f U i)).toInt32 → G_M_findWeights_329 l v (n + 1) post τ (nI f) (iL ((U : Nat) : Int)) (nI i) x (4 * τ.1 0 36 + nI i) := fun x hx => by
            refine T_M_findWeights_329 ?_
            rw [e36, i4, nI_clamp (by omega), nI_1]
            refine ⟨vp_in_nI (by omega) (by decide), ih _ (hX.I ⟨rfl, by omega, by omega⟩) (fun j hj => ?_)⟩
            by_cases z : j = i
            · subst z; rw [pI_eq]; exact hx
            · rw [pI_j (by omega)]; exact a1 j (by omega)
          have ne : nI i = nI f ↔ i = f := nI_nat (by omega) (by omega)
          have zero : (i = 0 ∨ K ≤ i ∨ T i i = 0) → G_M_findWeights_265 l v (n + 1) post τ (nI f) (iL ((U : Nat) : Int)) (nI i) := fun q => by
            refine T_M_findWeights_265 (T_M_findWeights_266 ?_)
            rw [ne]
            refine ⟨fun z => br_t rfl (write _ ?_), fun z => write _ ?_⟩
            · unfold w9
              rw [if_neg z, if_pos q]; rfl
            · unfold w9
              rw [if_pos z]
          refine T_M_findWeights_231 (br_f (nI_ge (a := i) (b := 4) hi (by decide)) ⟨fun q => zero (Or.inl ?_), fun q => ?_⟩)
          · have : nI i ≤ nI 0 := q
            have := (nI_leI (by omega) (by omega)).mp this
            omega
          · have h1 : 1 ≤ i := by
              rcases Nat.eq_zero_or_pos i with e | e
              · subst e; exact absurd (by decide) q
              · exact e
            rw [(hX 0 2 (by omega)).1, hC.1, nI_leI (by omega) (by omega)]
            refine ⟨fun q2 => zero (Or.inr (Or.inl q2)), fun q2 => ⟨vp_in_nI hi (by decide), ?_⟩⟩
            rw [nI_clamp (by omega), (hX 22 i (by omega)).1, (hM i h1 hi).1]
            refine ⟨fun q3 => zero (Or.inr (Or.inr q3)), fun q3 => T_M_findWeights_266 ?_⟩
            rw [ne]
            have nf : ¬ i = f := fun e => by subst e; exact q3 hf
            refine br_t' nf (br_f (by decide) ?_)
            have g1 := hsm i h1 (by omega) q3
            have bA := hbA i h1 (by omega) q3
            have hrow := (hM i h1 hi).2 q3
            rw [i4, i4, nI_clamp (n := 4 * i + f) (by omega), nI_clamp (n := 4 * i + i) (by omega), (hX 23 (4 * i + f) (by omega)).2.1, (hX 23 (4 * i + i) (by omega)).2.1, hrow f hf1 (by omega), hrow i h1 hi, iL_eq0 bA, iL_neg, iL_mul, iL_div (by
              have a := mul_abs_le (a := -R i f) (b := ((U : Nat) : Int)) (m := 2 ^ 14) (k := 2 ^ 42) (by rw [Int.natAbs_neg]; exact g1.1) (by rw [Int.natAbs_natCast]; exact hU)
              have e : (2 : Nat) ^ 14 * 2 ^ 42 = 2 ^ 56 := by decide
              rw [e] at a
              exact ⟨by omega, by omega⟩) bA]
            refine ⟨vp_in_nI (by omega) (by decide), vp_in_nI (by omega) (by decide), hpos i h1 (by omega) q3, write _ ?_⟩
            unfold w9
            rw [if_neg nf, if_neg (fun h => by rcases h with h | h | h <;> first | omega | exact q3 h)]
      exact L2 0 (Nat.zero_le _) σ sX.rf (fun j hj => absurd hj (Nat.not_lt_zero _))
    · intro i hi ih h1
      have hi4 : i < 4 := by omega
      have step : ∀ a b : Int, a = pA9 T R i → b = pB9 T R f i → bd a → bd b → a ≠ 0 → G_M_findWeights_179 l v (n + 1) post σ (nI f) (iL ((uF T R f (i - 1) : Nat) : Int)) (nI i) (iL a) (iL b) := fun a b ha hb bA bB a0 => by
        have hg : 0 < Nat.gcd a.natAbs b.natAbs := Nat.gcd_pos_of_pos_left _ (by omega)
        have hg2 : Nat.gcd a.natAbs b.natAbs ≤ a.natAbs := Nat.gcd_le_left _ (by omega)
        have b1 := bA.1
        have b2 := bA.2
        have bG : bd ((Nat.gcd a.natAbs b.natAbs : Nat) : Int) := bd_nat (by omega)
        have hU := hUle (i - 1) (by omega)
        have hP := hpart i h1 (by omega)
        have hpp : 0 < part9 T R f i := part_pos (hpos i h1 (by omega))
        have ep : part9 T R f i = (a.tdiv ((Nat.gcd a.natAbs b.natAbs : Nat) : Int)).natAbs := by
          rw [Int.natAbs_tdiv, Int.natAbs_natCast, ha, hb]
          rfl
        have b208 : ∀ y : Int, y = ((part9 T R f i : Nat) : Int) → G_M_findWeights_208 l v (n + 1) post σ (nI f) (iL ((uF T R f (i - 1) : Nat) : Int)) (nI i) (iL y) := fun y hy => by
          subst hy
          refine T_M_findWeights_208 (k_divisor (bd_nat (by omega)) (bd_nat (by omega)) ?_)
          rw [Int.natAbs_natCast, Int.natAbs_natCast]
          have hgp : 0 < Nat.gcd (uF T R f (i - 1)) (part9 T R f i) := Nat.gcd_pos_of_pos_right _ hpp
          have hgl : Nat.gcd (uF T R f (i - 1)) (part9 T R f i) ≤ part9 T R f i := Nat.gcd_le_right _ hpp
          have bg : bd ((Nat.gcd (uF T R f (i - 1)) (part9 T R f i) : Nat) : Int) := bd_nat (by omega)
          refine ⟨by rw [iL_eq0 bg]; omega, ?_⟩
          rw [iL_div (bd_nat (by omega)) bg, iL_mul, nI_1]
          have e : (((uF T R f (i - 1) : Nat) : Int).tdiv ((Nat.gcd (uF T R f (i - 1)) (part9 T R f i) : Nat) : Int)) * ((part9 T R f i : Nat) : Int) = ((uF T R f (i + 1 - 1) : Nat) : Int) := by
            rw [← Int.ofNat_tdiv, ← Int.natCast_mul, lcm_div, show i + 1 - 1 = (i - 1) + 1 by omega]
            show _ = ((Nat.lcm (uF T R f (i - 1)) (part9 T R f (i - 1 + 1)) : Nat) : Int)
            rw [show i - 1 + 1 = i by omega]
          rw [e]
          exact ih (by omega)
        have hq : (a.tdiv ((Nat.gcd a.natAbs b.natAbs : Nat) : Int)).natAbs ≤ a.natAbs := by
          rw [Int.natAbs_tdiv]
          exact Nat.div_le_self _ _
        refine T_M_findWeights_179 (k_divisor bA bB ⟨by rw [iL_eq0 bG]; omega, ?_⟩)
        rw [iL_div bA bG, iL_0le ⟨by omega, by omega⟩, iL_neg]
        exact ⟨fun z => b208 _ (by omega), fun z => b208 _ (by omega)⟩
      refine T_M_findWeights_117 (br_f (by rw [hC.1]; exact nI_ge hi (by omega)) ⟨vp_in_nI hi4 (by decide), ?_⟩)
      have e22 : σ.1 22 (nI i).toNatClampNeg = 0 ↔ T i i = 0 := by
        rw [nI_clamp (by omega)]; exact (hM i h1 hi4).1
      rw [e22]
      refine ⟨fun q => T_M_findWeights_152 ⟨vp_in_nI hi4 (by decide), br_t (e22.mpr q) ?_⟩, fun q => ?_⟩
      · exact step 1 0 (by unfold pA9; rw [if_pos q]) (by unfold pB9; rw [if_pos q]) bd_1 bd_0 (by decide)
      · have hrow := (hM i h1 hi4).2 q
        rw [i4, nI_clamp (n := 4 * i + i) (by omega), hrow i h1 hi4]
        refine ⟨vp_in_nI (by omega) (by decide), T_M_findWeights_152 ⟨vp_in_nI hi4 (by decide), br_f (fun z => q (e22.mp z)) ?_⟩⟩
        rw [i4, nI_clamp (n := 4 * i + f) (by omega), hrow f hf1 (by omega)]
        refine ⟨vp_in_nI (by omega) (by decide), step _ _ (by unfold pA9; rw [if_neg q]) (by unfold pB9; rw [if_neg q]) (hbA i h1 (by omega) q) (bd_n ?_) (hpos i h1 (by omega) q)⟩
        have := (hsm i h1 (by omega) q).1
        omega
  exact L1 1 (by omega) (Nat.le_refl _)
theorem k_findWeights {post : gs_S → Prop} (hR : okR K W tb) (hC : mR σ K W tb) (hc : mWt σ K W tb) (hp : ∀ σ', fMw σ σ' → σ'.1 0 35 = 1 → wM σ' K W tb → post σ') : gM l v lyM 33 me_M_findWeights (n + 4) [.ref (v.2.2 0)] σ (qV v lyM 33 post) := by
  have hK := hR.2.1
  have hK2 := hR.1
  have h256 := pw_le hK hR.2.2.2.1
  have hT := hR.tri (Nat.le_refl (K ^ W))
  refine E_M_findWeights (T_M_findWeights_0 ?_)
  rcases hc with hc | ⟨h1, h2⟩
  · refine br_t hc ?_
    have L4 : ∀ s, s ≤ K → 1 ≤ s → ∀ τ, fMw σ τ → τ.1 0 35 = 1 → mM τ (tT K W tb) (clA (tT K W tb) (K - 1)) → τ.1 0 36 = nI (fr (tT K W tb) s) → (∀ f, 1 ≤ f → f < s → tT K W tb f f = 0 → ∃ w, sol (tT K W tb) f w ∧ ∀ i, i < 4 → τ.1 21 (4 * fr (tT K W tb) f + i) = (iL (w i)).toInt32) → G_M_findWeights_95 l v (n + 3) post τ (nI s) := by
      refine dn ?_ ?_
      · intro _ τ hX e1 hM e5 hW
        exact T_M_findWeights_95 (br_t (by rw [(hX 0 2 (by omega)).1, hC.1]; exact nI_le (Nat.le_refl _) (by omega)) (hp τ hX e1 ⟨e5, hW⟩))
      · intro s hs ih hs1 τ hX e1 hM e5 hW
        have hs4 : s < 4 := by omega
        have hCτ : mR τ K W tb := hC.kept hX (fun _ _ => by omega) (fun _ => by omega)
        refine T_M_findWeights_95 (br_f (by rw [hCτ.1]; exact nI_ge hs (by omega)) ⟨vp_in_nI hs4 (by decide), ?_⟩)
        rw [nI_clamp (n := s) (by omega), (hM s hs1 hs4).1]
        refine ⟨fun h => T_M_findWeights_346 ?_, fun h => ?_⟩
        · rw [nI_1]
          refine ih (by omega) τ hX e1 hM (by rw [fr_no h]; exact e5) (fun f f1 f2 f3 => hW f f1 ?_ f3)
          rcases (show f = s ∨ f < s by omega) with z | z
          · subst z; exact absurd f3 h
          · exact z
        · refine k_oneWeight hR hCτ hT hM hs1 hs h e5 (fun τ2 w hX2 e52 hw hm2 => T_M_findWeights_346 ?_)
          rw [nI_1]
          refine ih (by omega) τ2 (hX.tr (hX2.mono (fun k j h => by omega))) ?_ (fun t t1 t2 => ?_) ?_ ?_
          · rw [(hX2 0 35 (by omega)).1]; exact e1
          · rw [(hX2 22 t (by omega)).1]
            exact ⟨(hM t t1 t2).1, fun z i i1 i2 => by rw [(hX2 23 (4 * t + i) (by omega)).2.1]; exact (hM t t1 t2).2 z i i1 i2⟩
          · rw [fr_yes hs1 h]; exact e52
          · intro f f1 f2 f3
            rcases (show f = s ∨ f < s by omega) with z | z
            · subst z; exact ⟨w, hw, hm2⟩
            · obtain ⟨w', a, b⟩ := hW f f1 z f3
              have hlt : fr (tAll K W tb (K ^ W)) f < fr (tAll K W tb (K ^ W)) s := fr_lt (T := tT K W tb) f1 f3 z
              have b : ∀ i, i < 4 → τ.1 21 (4 * fr (tAll K W tb (K ^ W)) f + i) = (iL (w' i)).toInt32 := b
              exact ⟨w', a, fun i hi => by show _ = _; rw [(hX2 21 (4 * fr (tAll K W tb (K ^ W)) f + i) (by omega)).1]; exact b i hi⟩
    have L3 : ∀ s, s ≤ K - 1 → ∀ τ, fMw σ τ → τ.1 0 35 = 1 → τ.1 0 36 = 0 → mM τ (tT K W tb) (clA (tT K W tb) s) → G_M_findWeights_65 l v (n + 3) post τ (nI (s + 1)) := by
      refine dn ?_ ?_
      · intro τ hX e1 e5 hM
        refine T_M_findWeights_65 (br_t (by rw [(hX 0 2 (by omega)).1, hC.1]; exact nI_le (by omega) (by omega)) ?_)
        exact L4 1 (by omega) (Nat.le_refl _) τ hX e1 hM (by rw [e5]; rfl) (fun f f1 f2 _ => absurd f1 (by omega))
      · intro s hs ih τ hX e1 e5 hM
        refine T_M_findWeights_65 (br_f (by rw [(hX 0 2 (by omega)).1, hC.1]; exact nI_ge (by omega) (by omega)) ⟨vp_in_nI (by omega) (by decide), ?_⟩)
        rw [nI_clamp (by omega), (hM (s + 1) (by omega) (by omega)).1]
        refine ⟨fun q => T_M_findWeights_87 ?_, fun q => k_clearRow hT (by omega) q hM (fun τ2 hX2 hM2 => T_M_findWeights_87 ?_)⟩
        · rw [nI_1]
          refine ih τ hX e1 e5 ?_
          have : clA (tT K W tb) (s + 1) = clA (tT K W tb) s := if_neg (fun z => z q)
          rw [this]; exact hM
        · rw [nI_1]
          refine ih τ2 (hX.tr (hX2.mono (fun k j h => by omega))) ?_ ?_ hM2
          · rw [(hX2 0 35 (by omega)).1]; exact e1
          · rw [(hX2 0 36 (by omega)).1]; exact e5
    have L2 : ∀ m, m ≤ K ^ W → ∀ τ, fMw σ τ → τ.1 0 35 = 1 → τ.1 0 36 = 0 → mM τ (tAll K W tb m) (tAll K W tb m) → G_M_findWeights_40 l v (n + 3) post τ (nI m) := by
      refine dn ?_ ?_
      · intro τ hX e1 e5 hM
        refine T_M_findWeights_40 (br_t (by rw [(hX 0 5 (by omega)).1, hC.2.2.2.1]; exact nI_le (Nat.le_refl _) (by omega)) ?_)
        exact L3 0 (Nat.zero_le _) τ hX e1 e5 hM
      · intro m hm ih τ hX e1 e5 hM
        have hCτ : mR τ K W tb := hC.kept hX (fun _ _ => by omega) (fun _ => by omega)
        refine T_M_findWeights_40 (br_f (by rw [hCτ.2.2.2.1]; exact nI_ge hm (by omega)) (k_equation hR hCτ hm (fun τ1 hX1 he1 => ?_)))
        have hC1 : mR τ1 K W tb := hCτ.kept hX1 (fun _ _ => by omega) (fun _ => by omega)
        refine k_keep hR hC1 (hR.tri (Nat.le_of_lt hm)) (fun t t1 t2 => ?_) he1 (eqv_ok hR.1 hR.2.2.1 hR.2.2.2.1 hR.2.2.2.2 hm) (fun τ2 hX2 hM2 => ?_)
        · rw [(hX1 22 t (by omega)).1]
          exact ⟨(hM t t1 t2).1, fun z i i1 i2 => by rw [(hX1 23 (4 * t + i) (by omega)).2.1]; exact (hM t t1 t2).2 z i i1 i2⟩
        · rw [nI_1]
          refine ih τ2 ((hX.tr (hX1.mono (fun k j h => by omega))).tr (hX2.mono (fun k j h => by omega))) ?_ ?_ hM2
          · rw [(hX2 0 35 (by omega)).1, (hX1 0 35 (by omega)).1]; exact e1
          · rw [(hX2 0 36 (by omega)).1, (hX1 0 36 (by omega)).1]; exact e5
    have L1 : ∀ t, t ≤ 4 → ∀ τ, fMw σ τ → τ.1 0 35 = 1 → τ.1 0 36 = 0 → (∀ s, s < t → τ.1 22 s = 0) → G_M_findWeights_20 l v (n + 3) post τ (nI t) := by
      refine dn ?_ ?_
      · intro τ hX e1 e5 hz
        refine T_M_findWeights_20 (br_t (by decide) (L2 0 (Nat.zero_le _) τ hX e1 e5 (fun t t1 t2 => ⟨⟨fun _ => rfl, fun _ => hz t t2⟩, fun z => absurd rfl z⟩)))
      · intro t ht ih τ hX e1 e5 hz
        refine T_M_findWeights_20 (br_f (nI_ge (a := t) (b := 4) ht (by decide)) ⟨vp_in_nI ht (by decide), ?_⟩)
        rw [nI_clamp (by omega), nI_1]
        refine ih _ (hX.I (by omega)) ?_ ?_ (fun s hs => ?_)
        · rw [pI_k (by decide)]; exact e1
        · rw [pI_k (by decide)]; exact e5
        · by_cases z : s = t
          · subst z; exact pI_eq
          · rw [pI_j z]; exact hz s (by omega)
    refine L1 0 (Nat.zero_le _) _ ((sX.rf.I (by omega)).I (by omega)) ?_ pI_eq (fun s hs => absurd hs (Nat.not_lt_zero _))
    rw [pI_j (by decide), pI_eq]
  · exact br_f (by rw [h1]; decide) (hp σ sX.rf h1 h2)
end K29
section K30
variable {l : Launch} {v1 v2 : gs_V} {n : Nat} {σ1 σ2 : gs_S} {K W : Nat} {tb : Nat → Nat} {Post : gs_S → gs_S → Prop} {x y : Int32}
theorem o_conserved (hp : ¬ σ1.1 4 5 = 0) (hR : okR K W tb) (hC : cR σ1 K W tb) (hM : mR σ2 K W tb) (hc : cWt σ1 K W tb) (hm : mWt σ2 K W tb) (hP : ∀ σ1' σ2', fWt σ1 σ1' → cWt σ1' K W tb → fMw σ2 σ2' → mWt σ2' K W tb → Post σ1' σ2') : lOi l v1 v2 (n + 6) me_A_conserved me_M_conserved [] σ1 σ2 Post := by
  refine E_A_conserved (T_A_conserved_0 (br_f hp (E_W_count (T_W_count_0 (k_W_find hR hC hc (fun σ1' hX h1 h2 => T_A_conserved_21 ?_))))))
  refine E_M_conserved (T_M_conserved_0 (br_t' (hM.k0 hR) (k_findWeights hR hM hm (fun σ2' hX2 g1 g2 => ⟨?_, hP σ1' σ2' hX (Or.inr ⟨h1, h2⟩) hX2 (Or.inr ⟨g1, g2⟩)⟩))))
  rw [h2.1, g2.1]
theorem o_weight (hp : ¬ σ1.1 4 5 = 0) (hR : okR K W tb) (hC : cR σ1 K W tb) (hM : mR σ2 K W tb) (hc : cWt σ1 K W tb) (hm : mWt σ2 K W tb) (hP : ∀ σ1' σ2', fWt σ1 σ1' → cWt σ1' K W tb → fMw σ2 σ2' → mWt σ2' K W tb → Post σ1' σ2') : lOi l v1 v2 (n + 6) me_A_weight me_M_weight [.int x, .int y] σ1 σ2 Post := by
  have hK := hR.2.1
  have hT := hR.tri (Nat.le_refl (K ^ W))
  have hfl := fr_le (T := tT K W tb) K
  refine E_A_weight (T_A_weight_0 (br_f hp (E_W_at (T_W_at_0 (k_W_find hR hC hc (fun σ1' hX h1 h2 => ?_))))))
  have hC' : cR σ1' K W tb := hC.kept hX (fun _ => by omega) (fun _ => by omega)
  have second : ∀ r : Int32, (∀ σ2', wM σ2' K W tb → (x < 0 → r = 0) ∧ (¬ x < 0 → (nI (fr (tT K W tb) K) ≤ x → r = 0) ∧ (¬ nI (fr (tT K W tb) K) ≤ x → (y < 0 → r = 0) ∧ (¬ y < 0 → (nI K ≤ y → r = 0) ∧ (¬ nI K ≤ y → vp_in (4 * x + y) 16 ∧ r = σ2'.1 21 (4 * x + y).toNatClampNeg))))) → gM l v2 lyM 33 me_M_weight (n + 6) [.ref (v2.2.2 0), .int x, .int y] σ2 (qI v2 lyM 33 (fun r' σ2' => r = r' ∧ Post σ1' σ2')) := by
    intro r hr
    refine E_M_weight (T_M_weight_0 (br_t' (hM.k0 hR) (k_findWeights hR hM hm (fun σ2' hX2 g1 g2 => ?_))))
    have hPP := hP σ1' σ2' hX (Or.inr ⟨h1, h2⟩) hX2 (Or.inr ⟨g1, g2⟩)
    have z := hr σ2' g2
    rw [g2.1, (hX2 0 2 (by omega)).1, hM.1]
    exact ⟨fun q => T_M_weight_50 (T_M_weight_51 ⟨z.1 q, hPP⟩), fun q => ⟨fun q2 => T_M_weight_50 (T_M_weight_51 ⟨(z.2 q).1 q2, hPP⟩), fun q2 => ⟨fun q3 => T_M_weight_50 (T_M_weight_51 ⟨((z.2 q).2 q2).1 q3, hPP⟩), fun q3 => ⟨fun q4 => T_M_weight_50 (T_M_weight_51 ⟨(((z.2 q).2 q2).2 q3).1 q4, hPP⟩), fun q4 => ⟨((((z.2 q).2 q2).2 q3).2 q4).1, T_M_weight_51 ⟨((((z.2 q).2 q2).2 q3).2 q4).2, hPP⟩⟩⟩⟩⟩⟩
  have bad : (x < 0 ∨ nI (fr (tT K W tb) K) ≤ x ∨ y < 0 ∨ nI K ≤ y) → G_W_at_27 l v1 (n + 4) (fun r σ => G_A_weight_23 l v1 (n + 5) (fun r σ1' => gM l v2 lyM 33 me_M_weight (n + 6) [.ref (v2.2.2 0), .int x, .int y] σ2 (qI v2 lyM 33 (fun r' σ2' => r = r' ∧ Post σ1' σ2'))) σ r) σ1' := fun q => T_W_at_27 (T_W_at_40 (T_A_weight_23 (second 0 (fun σ2' _ => ⟨fun _ => rfl, fun q1 => ⟨fun _ => rfl, fun q2 => ⟨fun _ => rfl, fun q3 => ⟨fun _ => rfl, fun q4 => by
    rcases q with q | q | q | q
    · exact absurd q q1
    · exact absurd q q2
    · exact absurd q q3
    · exact absurd q q4⟩⟩⟩⟩))))
  rw [h2.1]
  refine ⟨fun q => bad (Or.inl q), fun q => ⟨fun q2 => bad (Or.inr (Or.inl q2)), fun q2 => k_R_hasState (fun h => br_f' rfl (bad ?_)) (fun q3 q4 => br_t' (by decide) ?_)⟩⟩
  · rw [hC'.1] at h
    exact h.elim (fun z => Or.inr (Or.inr (Or.inl z))) (fun z => Or.inr (Or.inr (Or.inr z)))
  · rw [hC'.1] at q4
    obtain ⟨j, hj, rfl⟩ := nI_of_range q q2 (by omega)
    obtain ⟨s, hs, rfl⟩ := nI_of_range q3 q4 (by omega)
    obtain ⟨f, f1, f2, f3, f4⟩ := fr_surj K hj
    obtain ⟨w, w1, w2⟩ := h2.2 f f1 f2 f3
    refine ⟨vp_in_nI (by omega) (by decide), vp_in_nI (by omega) (by decide), T_W_at_40 (T_A_weight_23 (second _ (fun σ2' g => ⟨fun z => absurd z q, fun _ => ⟨fun z => absurd z q2, fun _ => ⟨fun z => absurd z q3, fun _ => ⟨fun z => absurd z q4, fun _ => ?_⟩⟩⟩⟩)))⟩
    obtain ⟨w', w1', w2'⟩ := g.2 f f1 f2 f3
    rw [i4, nI_clamp (n := 4 * j + s) (by omega), nI_clamp (n := j) (by omega), nI_clamp (n := s) (by omega), ← f4, w2 s (by omega), w2' s (by omega), sol_uniq hT w1 w1' s (by omega)]
    exact ⟨vp_in_nI (by omega) (by decide), rfl⟩
end K30
