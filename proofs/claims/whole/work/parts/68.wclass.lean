/-! Weights of the class. -/
theorem pL_j {σ : gs_S} {k j j' : Nat} {x : Int64} (h : j' ≠ j) : (gs_pL σ k j x).2.1 k j' = σ.2.1 k j' := by
  rw [pL_row]
  show (if j' = j then x else σ.2.1 k j') = _
  rw [if_neg h]
theorem nI_dn (r : Nat) : nI (r + 1) + (-1) = nI r := by
  rw [show nI (r + 1) + (-1) = nI (r + 1) - 1 from (Int32.sub_eq_add_neg _ _).symm]
  exact nI_pred r
theorem bd_n {z : Int} (h : z.natAbs < 2 ^ 45) : bd z := ⟨by omega, by omega⟩
def gNm (w : Nat → Int) : Nat → Nat
  | 0 => 0
  | m + 1 => Nat.gcd (gNm w m) (w m).natAbs
theorem gN_4 {w : Nat → Int} (h0 : w 0 = 0) : gNm w 4 = g9 w := by
  show Nat.gcd (Nat.gcd (Nat.gcd (Nat.gcd 0 (w 0).natAbs) (w 1).natAbs) (w 2).natAbs) (w 3).natAbs = _
  rw [h0]
  show Nat.gcd (Nat.gcd (Nat.gcd (Nat.gcd 0 0) (w 1).natAbs) (w 2).natAbs) (w 3).natAbs = _
  rw [Nat.gcd_zero_left, Nat.gcd_zero_left]
  rfl
theorem gN_le {w : Nat → Int} (h : ∀ i, i < 4 → (w i).natAbs < 2 ^ 45) : ∀ m, m ≤ 4 → gNm w m < 2 ^ 62
  | 0, _ => by show 0 < 2 ^ 62; decide
  | m + 1, hm => by
    have ih := gN_le h m (by omega)
    have hb := h m (by omega)
    show Nat.gcd (gNm w m) (w m).natAbs < _
    rcases Nat.eq_zero_or_pos (w m).natAbs with e | e
    · rw [e, Nat.gcd_zero_right]; exact ih
    · have := Nat.gcd_le_right (gNm w m) e
      omega
section K26
variable {l : Launch} {v : gs_V} {n : Nat} {σ : gs_S}
theorem k_shorten {post : gs_S → Prop} {q : Nat} {w : Nat → Int} (hq : q < 42 ∧ lyC q = .inl (1, 4, 0)) (h0 : w 0 = 0) (hb : ∀ i, i < 4 → (w i).natAbs < 2 ^ 45) (hm : ∀ i, i < 4 → σ.2.1 q i = iL (w i)) (hp : ∀ σ', sX (fun k _ => k = q) σ σ' → (∀ i, i < 4 → σ'.2.1 q i = iL (shr w i)) → post σ') : gM l v lyC 42 me_W_shorten (n + 2) [.ref (v.2.2 19), .ref (v.2.2 q)] σ (qV v lyC 42 post) := by
  have hgb : bd ((g9 w : Nat) : Int) := bd_nat (by rw [← gN_4 h0]; exact gN_le hb 4 (Nat.le_refl _))
  have fin : G_W_shorten_5 l v (n + 1) post σ q (iL ((gNm w 4 : Nat) : Int)) (nI 4) := by
    rw [gN_4 h0]
    refine T_W_shorten_5 hq (br_t (by decide) ⟨fun hg => ?_, fun hg => ?_⟩)
    · have L : ∀ i, i ≤ 4 → ∀ τ, sX (fun k _ => k = q) σ τ → (∀ j, j < 4 → τ.2.1 q j = iL (if j < i then shr w j else w j)) → G_W_shorten_39 l v (n + 1) post τ q (iL ((g9 w : Nat) : Int)) (nI i) := by
        refine dn ?_ ?_
        · intro τ hX hτ
          exact T_W_shorten_39 hq (br_t (by decide) (hp τ hX (fun i hi => by rw [hτ i hi, if_pos hi])))
        · intro i hi ih τ hX hτ
          refine T_W_shorten_39 hq (br_f (nI_ge (a := i) (b := 4) hi (by decide)) ⟨vp_in_nI hi (by decide), hg, vp_in_nI hi (by decide), ?_⟩)
          rw [nI_clamp (by omega), nI_1]
          refine ih _ (hX.L rfl) (fun j hj => ?_)
          by_cases e : j = i
          · subst e
            rw [pL_eq, hτ j hj, if_neg (by omega), iL_div (bd_n (hb j hj)) hgb, if_pos (by omega)]; rfl
          · rw [pL_j e, hτ j hj]
            by_cases e2 : j < i
            · rw [if_pos e2, if_pos (by omega)]
            · rw [if_neg e2, if_neg (by omega)]
      exact L 0 (by decide) σ sX.rf (fun j hj => by rw [hm j hj, if_neg (by omega)])
    · rw [iL_eq0 hgb] at hg
      have hg' : g9 w = 0 := by omega
      refine hp σ sX.rf (fun i hi => ?_)
      rw [hm i hi]
      rcases Nat.eq_zero_or_pos i with e | e
      · subst e; rw [shr_0 h0, h0]
      · rw [shr_0 (g9_zero hg' e hi), g9_zero hg' e hi]
  refine E_W_shorten (T_W_shorten_0 hq ?_)
  refine dn0 (N := 4) (P := fun i => G_W_shorten_5 l v (n + 1) post σ q (iL ((gNm w i : Nat) : Int)) (nI i)) fin ?_
  intro i hi ih
  refine T_W_shorten_5 hq (br_f (nI_ge (a := i) (b := 4) hi (by decide)) ⟨vp_in_nI hi (by decide), ?_⟩)
  rw [nI_clamp (by omega), hm i hi]
  refine k_abs (bd_n (hb i hi)) (k_commonDivisor (gN_le hb i (by omega)) (hb i hi) ?_)
  rw [nI_1]
  exact ih
variable {K W : Nat} {tb : Nat → Nat}
theorem k_addGain {post : gs_S → Prop} {m : Nat} {c : Int} {x : Int32} {e : Nat → Int} (hR : okR K W tb) (hC : cR σ K W tb) (hx : x.toInt64 = iL c) (hm : m < K ^ W) (he : ∀ s, s < 4 → σ.2.1 30 s = iL (e s)) (hp : ∀ σ', sX (fun k _ => k = 30) σ σ' → (∀ s, s < 4 → σ'.2.1 30 s = iL (e s + c * smu (fun i s => ind (tb (m / K ^ i)) s) (W - 1) s)) → post σ') : gM l v lyC 42 me_W_addGain (n + 1) [.ref (v.2.2 19), .int (nI m), .int x] σ (qV v lyC 42 post) := by
  have hK := hR.2.1
  have hK2 := hR.1
  have hW := hR.2.2.2.1
  have hW1 := hR.2.2.1
  have h256 := pw_le hK hW
  have L : ∀ i, i ≤ W - 1 → ∀ τ, sX (fun k _ => k = 30) σ τ → (∀ s, s < 4 → τ.2.1 30 s = iL (e s + c * smu (fun i s => ind (tb (m / K ^ i)) s) i s)) → G_W_addGain_5 l v n post τ x (nI (m / K ^ i)) (nI (i + 1)) := by
    refine dn ?_ ?_
    · intro τ hX hτ
      refine T_W_addGain_5 (br_t ?_ (hp τ hX hτ))
      rw [(hX 4 7 (by omega)).1, hC.2.1]
      exact nI_le (by omega) (by omega)
    · intro i hi ih τ hX hτ
      have hCτ : cR τ K W tb := hC.kept hX (fun _ => by omega) (fun _ => by omega)
      have hd : m / K ^ i ≤ m := Nat.div_le_self _ _
      have htb := hR.2.2.2.2 (m / K ^ i) (by omega)
      refine T_W_addGain_5 (br_f (by rw [hCτ.2.1]; exact nI_ge (by omega) (by omega)) ?_)
      rw [nI_clamp (by omega), hCτ.2.2.2.2 _ (by omega), nI_clamp (by omega), hCτ.1, pk_div (by omega) (by omega) (by omega), nI_1, Nat.div_div_eq_div_mul, ← Nat.pow_succ]
      refine ⟨vp_in_nI (by omega) (by decide), vp_in_nI (by omega) (by decide), vp_in_nI (by omega) (by decide), nI_ne0 (by omega) (by omega), ih _ (hX.L rfl) (fun s hs => ?_)⟩
      show _ = iL (e s + c * (smu (fun i s => ind (tb (m / K ^ i)) s) i s + ind (tb (m / K ^ i)) s))
      by_cases q : s = tb (m / K ^ i)
      · subst q
        rw [pL_eq, hτ _ hs, hx, iL_add]
        congr 1
        rw [show ind (tb (m / K ^ i)) (tb (m / K ^ i)) = 1 from if_pos rfl, Int.mul_add, Int.mul_one, Int.add_assoc]
      · rw [pL_j q, hτ _ hs, show ind (tb (m / K ^ i)) s = 0 from if_neg (fun z => q z.symm), Int.add_zero]
  refine E_W_addGain (T_W_addGain_0 ?_)
  have := L 0 (Nat.zero_le _) σ sX.rf (fun s hs => by rw [he s hs]; congr 1; show e s = e s + c * 0; omega)
  rw [Nat.pow_zero, Nat.div_one] at this
  exact this
theorem k_writeEquation {post : gs_S → Prop} {m : Nat} (hR : okR K W tb) (hC : cR σ K W tb) (hm : m < K ^ W) (hp : ∀ σ', sX (fun k _ => k = 30) σ σ' → (∀ s, s < 4 → σ'.2.1 30 s = iL (eqv K W tb m s)) → post σ') : gM l v lyC 42 me_W_writeEquation (n + 2) [.ref (v.2.2 19), .int (nI m)] σ (qV v lyC 42 post) := by
  have hK := hR.2.1
  have hK2 := hR.1
  have hW := hR.2.2.2.1
  have hW1 := hR.2.2.1
  have h256 := pw_le hK hW
  have h64 := pw_le1 hK hW
  have hpos := pw_pos (W := W - 1) hK2
  have hps := pw_s (K := K) hW1
  have htb := hR.2.2.2.2 m hm
  have hdN : m / K ^ (W - 1) < K := Nat.div_lt_of_lt_mul (by rw [← hps]; exact hm)
  have hle : K ^ (W - 1) ≤ K ^ W := Nat.pow_le_pow_right (by omega) (by omega)
  refine E_W_writeEquation (T_W_writeEquation_0 (k_fillJ ⟨by decide, rfl⟩ (by decide) ?_))
  have hX0 : sX (fun k _ => k = 30) σ (gs_pB σ 30 (fl64 (σ.2.1 30) 4 0)) := sX.rf.B (fun _ => rfl)
  have h0 : ∀ s, s < 4 → (gs_pB σ 30 (fl64 (σ.2.1 30) 4 0)).2.1 30 s = iL 0 := fun s hs => by
    rw [pB_row]
    exact if_pos hs
  generalize gs_pB σ 30 (fl64 (σ.2.1 30) 4 0) = τ at hX0 h0 ⊢
  have hCτ : cR τ K W tb := hC.kept hX0 (fun _ => by omega) (fun _ => by omega)
  rw [nI_clamp (by omega), hCτ.2.2.2.2 _ hm, hCτ.2.2.2.1, nI_clamp (n := tb m) (by omega), pk_div (by omega) hpos (by omega), nI_clamp (n := m / K ^ (W - 1)) (by omega)]
  refine ⟨vp_in_nI (by omega) (by decide), vp_in_nI (by omega) (by decide), vp_in_nI (by omega) (by decide), nI_ne0 hpos (by omega), vp_in_nI (by omega) (by decide), vp_in_nI (by omega) (by decide), ?_⟩
  have h1 : ∀ s, s < 4 → (gs_pL τ 30 (tb m) (τ.2.1 30 (tb m) + 1)).2.1 30 s = iL (ind (tb m) s) := fun s hs => by
    by_cases q : s = tb m
    · subst q
      rw [pL_eq, h0 _ hs, show ind (tb m) (tb m) = 1 from if_pos rfl]; rfl
    · rw [pL_j q, h0 _ hs, show ind (tb m) s = 0 from if_neg (fun z => q z.symm)]
  have hX1 := hX0.L (k := 30) (j := tb m) (x := τ.2.1 30 (tb m) + 1) rfl
  generalize gs_pL τ 30 (tb m) (τ.2.1 30 (tb m) + 1) = τ1 at hX1 h1 ⊢
  have h2 : ∀ s, s < 4 → (gs_pL τ1 30 (m / K ^ (W - 1)) (τ1.2.1 30 (m / K ^ (W - 1)) - 1)).2.1 30 s = iL (ind (tb m) s - ind (m / K ^ (W - 1)) s) := fun s hs => by
    by_cases q : s = m / K ^ (W - 1)
    · subst q
      rw [pL_eq, h1 _ hs, show ind (m / K ^ (W - 1)) (m / K ^ (W - 1)) = 1 from if_pos rfl, ← iL_sub]; rfl
    · rw [pL_j q, h1 _ hs, show ind (m / K ^ (W - 1)) s = 0 from if_neg (fun z => q z.symm), Int.sub_zero]
  have hX2 := hX1.L (k := 30) (j := m / K ^ (W - 1)) (x := τ1.2.1 30 (m / K ^ (W - 1)) - 1) rfl
  generalize gs_pL τ1 30 (m / K ^ (W - 1)) (τ1.2.1 30 (m / K ^ (W - 1)) - 1) = τ2 at hX2 h2 ⊢
  have hC2 : cR τ2 K W tb := hC.kept hX2 (fun _ => by omega) (fun _ => by omega)
  have hmod : m % K ^ (W - 1) < K ^ (W - 1) := Nat.mod_lt _ hpos
  refine k_R_end hR hC2 (by omega) (k_addGain (c := -1) hR hC2 (by decide) (by omega) h2 (fun τ3 hX3 h3 => ?_))
  have hC3 : cR τ3 K W tb := hC2.kept hX3 (fun _ => by omega) (fun _ => by omega)
  rw [hC3.1, pk_div (by omega) (by omega) (by omega)]
  have hdK : m / K ≤ m := Nat.div_le_self _ _
  refine ⟨nI_ne0 (by omega) (by omega), k_addGain (c := 1) hR hC3 (by decide) (by omega) h3 (fun τ4 hX4 h4 => hp _ (((hX2.tr hX3).tr hX4).L rfl) (fun s hs => ?_))⟩
  by_cases q : s = 0
  · subst q
    rw [pL_eq]; rfl
  · rw [pL_j q, h4 s hs]
    congr 1
    unfold eqv eq0
    rw [if_neg q]
    show _ + 1 * smu (gB K W tb m) (W - 1) s = _
    have : smu (fun i s => ind (tb (m % K ^ (W - 1) / K ^ i)) s) (W - 1) s = smu (gA K W tb m) (W - 1) s := rfl
    rw [this]
    omega
def tM (σ : gs_S) (T : Nat → Nat → Int) : Prop := ∀ t, 1 ≤ t → t < 4 → ∀ i, i < 4 → σ.2.1 (21 + t) i = iL (T t i)
abbrev fTi (σ σ' : gs_S) : Prop := sX (fun k _ => k = 30 ∨ (22 ≤ k ∧ k ≤ 24)) σ σ'
theorem k_tie {post : gs_S → Prop} {T : Nat → Nat → Int} {e0 : Nat → Int} (hR : okR K W tb) (hC : cR σ K W tb) (hT : tri K T) (hM : tM σ T) (h0 : ∀ s, s < 4 → σ.2.1 30 s = iL (e0 s)) (he0 : rowOk (K - 1) e0) (hp : ∀ σ', fTi σ σ' → tM σ' (tieF T e0 (K - 1)) → post σ') : gM l v lyC 42 me_W_tie (n + 3) [.ref (v.2.2 19)] σ (qV v lyC 42 post) := by
  have hK := hR.2.1
  have hK2 := hR.1
  have L : ∀ t, t < K → ∀ e τ, fTi σ τ → tM τ T → (∀ s, s < 4 → τ.2.1 30 s = iL (e s)) → (1 ≤ t → rowOk t e) → tieF T e t = tieF T e0 (K - 1) → G_W_tie_10 l v (n + 2) post τ (nI t) := by
    intro t
    induction t with
    | zero =>
      intro _ e τ hX hM _ _ hE
      refine T_W_tie_10 (br_t (by decide) (hp τ hX ?_))
      rw [← hE]; exact hM
    | succ t ih =>
      intro htK e τ hX hM he hr hE
      have ht4 : t + 1 < 4 := by omega
      have hr := hr (by omega)
      have hB := B9_le (t + 1)
      have hTt := (hT (t + 1) (by omega) ht4).1
      have bde : ∀ i, i < 4 → bd (e i) := fun i hi => bd_n (by have := hr.2.2 i hi; omega)
      have bdT : ∀ i, i < 4 → bd (T (t + 1) i) := fun i hi => bd_n (by have := hTt.2.2 i hi; omega)
      have hE' : (if e (t + 1) = 0 then tieF T e t else if T (t + 1) (t + 1) = 0 then (fun s => if s = t + 1 then e else T s) else tieF T (red e (T (t + 1)) (t + 1)) t) = tieF T e0 (K - 1) := hE
      have hin : vp_in (nI (t + 1)) 4 := vp_in_nI ht4 (by decide)
      refine T_W_tie_10 (br_f (nI_ge (a := 0) (b := t + 1) (by omega) (by omega)) ⟨hin, ?_⟩)
      rw [nI_clamp (by omega), he _ ht4, iL_eq0 (bde _ ht4), hM (t + 1) (by omega) ht4 _ ht4, iL_eq0 (bdT _ ht4)]
      by_cases q : e (t + 1) = 0
      · refine br_f' q (T_W_tie_129 ?_)
        rw [nI_dn]
        rw [if_pos q] at hE'
        exact ih (by omega) e τ hX hM he (fun _ => hr.down q (by omega)) hE'
      · rw [if_neg q] at hE'
        refine br_t' q ⟨hin, hin, ?_⟩
        by_cases q2 : T (t + 1) (t + 1) = 0
        · rw [if_pos q2] at hE'
          refine br_f' q2 ⟨hin, hp _ (hX.B (fun _ => by omega)) ?_⟩
          rw [← hE']
          intro s hs1 hs2 i hi
          show _ = iL ((if s = t + 1 then e else T s) i)
          by_cases q3 : s = t + 1
          · subst q3
            rw [pB_row, if_pos rfl]
            show (if 0 ≤ i ∧ i < 0 + 4 then τ.2.1 30 (0 + (i - 0)) else _) = _
            rw [if_pos ⟨Nat.zero_le _, by omega⟩, Nat.zero_add, Nat.sub_zero]
            exact he i hi
          · rw [pB_k (by omega), if_neg q3]
            exact hM s hs1 hs2 i hi
        · rw [if_neg q2] at hE'
          refine br_t' q2 ⟨hin, ?_⟩
          have M : ∀ i, i ≤ K → ∀ τ', fTi τ τ' → tM τ' T → (∀ s, s < 4 → τ'.2.1 30 s = iL (if s < i then cm e (T (t + 1)) (t + 1) s else e s)) → G_W_tie_68 l v (n + 2) post τ' (nI (t + 1)) (iL (e (t + 1))) (nI i) := by
            refine dn ?_ ?_
            · intro τ' hX' hM' he'
              refine T_W_tie_68 (br_t (by rw [((hX.tr hX') 4 6 (by omega)).1, hC.1]; exact nI_le (Nat.le_refl _) (by omega)) ?_)
              have hbc : ∀ i, i < 4 → (cm e (T (t + 1)) (t + 1) i).natAbs < 2 ^ 45 := fun i hi => by
                have a := cm_le hr.2.2 hTt.2.2 ht4 hi
                have b := Nat.mul_le_mul hB hB
                omega
              refine k_shorten (w := cm e (T (t + 1)) (t + 1)) ⟨by decide, rfl⟩ (cm_00 hr.1 hTt.1) hbc (fun i hi => ?_) (fun τ2 hX2 h2 => T_W_tie_129 ?_)
              · rw [he' i hi]
                by_cases z : i < K
                · rw [if_pos z]
                · rw [if_neg z, hr.2.1 i (by omega) hi, cm_00 (hr.2.1 i (by omega) hi) (hTt.2.1 i (by omega) hi)]
              · rw [nI_dn]
                refine ih (by omega) _ τ2 ((hX.tr hX').tr (hX2.mono (fun k j h => Or.inl h))) (fun s s1 s2 i hi => ?_) h2 (fun h => hr.red hTt (by omega) h) hE'
                rw [(hX2 (21 + s) i (by omega)).2.1]; exact hM' s s1 s2 i hi
            · intro i hi ih2 τ' hX' hM' he'
              have hi4 : i < 4 := by omega
              have hin2 : vp_in (nI i) 4 := vp_in_nI hi4 (by decide)
              refine T_W_tie_68 (br_f (by rw [((hX.tr hX') 4 6 (by omega)).1, hC.1]; exact nI_ge hi (by omega)) ⟨hin2, hin, hin, hin, hin2, hin2, ?_⟩)
              rw [nI_clamp (n := i) (by omega), nI_clamp (n := t + 1) (by omega), nI_1, he' i hi4, if_neg (by omega), hM' (t + 1) (by omega) ht4 _ ht4, hM' (t + 1) (by omega) ht4 _ hi4, iL_mul, iL_mul, iL_sub]
              refine ih2 _ (hX'.L (Or.inl rfl)) (fun s s1 s2 j hj => ?_) (fun s hs => ?_)
              · rw [pL_k (by omega)]; exact hM' s s1 s2 j hj
              · by_cases z : s = i
                · subst z
                  rw [pL_eq, if_pos (by omega)]; rfl
                · rw [pL_j z, he' s hs]
                  by_cases z2 : s < i
                  · rw [if_pos z2, if_pos (by omega)]
                  · rw [if_neg z2, if_neg (by omega)]
          have := M 0 (Nat.zero_le _) τ sX.rf hM (fun s hs => by rw [he s hs, if_neg (by omega)])
          exact this
  refine E_W_tie (T_W_tie_0 ?_)
  rw [hC.1, show nI K - 1 = nI (K - 1) from pk_sub (a := K) (b := 1) (by omega)]
  exact L (K - 1) (by omega) e0 σ sX.rf hM h0 (fun _ => he0) rfl
theorem k_writeWeight {post : gs_S → Prop} {T : Nat → Nat → Int} {f q : Nat} (hR : okR K W tb) (hC : cR σ K W tb) (hT : tri K T) (hM : tM σ T) (hf1 : 1 ≤ f) (hfK : f < K) (hf : T f f = 0) (hq : q < 42 ∧ lyC q = .inl (1, 4, 0)) (hq2 : 26 ≤ q) (hp : ∀ σ' w, sX (fun k _ => k = q) σ σ' → sol T f w → (∀ i, i < 4 → σ'.2.1 q i = iL (w i)) → post σ') : gM l v lyC 42 me_W_writeWeight (n + 3) [.ref (v.2.2 19), .int (nI f), .ref (v.2.2 q)] σ (qV v lyC 42 post) := by
  have hK := hR.2.1
  have hK2 := hR.1
  have hf4 : f < 4 := by omega
  have L : ∀ t, t ≤ K → f + 1 ≤ t → ∀ τ w, sX (fun k _ => k = q) σ τ → wI T f t w → (∀ i, i < 4 → τ.2.1 q i = iL (w i)) → G_W_writeWeight_13 l v (n + 2) post τ (nI f) q (nI t) := by
    refine dn ?_ ?_
    · intro _ τ w hX hw hm
      have hwb : ∀ i, i < 4 → bd (w i) := fun i hi => bd_n (by
        have a := hw.2.2.2.2.2.2 i hi
        have b : 100 ^ (K - 2) ≤ 100 ^ 2 := Nat.pow_le_pow_right (by decide) (by omega)
        omega)
      refine T_W_writeWeight_13 hq (br_t (by rw [(hX 4 6 (by omega)).1, hC.1]; exact nI_le (Nat.le_refl _) (by omega)) ⟨vp_in_nI hf4 (by decide), ?_⟩)
      rw [nI_clamp (by omega), hm f hf4, iL_0le (hwb f hf4)]
      refine ⟨fun h => T_W_writeWeight_165 (hp τ w hX (wI_pos hT (Nat.le_refl _) hw h) hm), fun h => ?_⟩
      have M : ∀ i, i ≤ K → ∀ τ', sX (fun k _ => k = q) σ τ' → (∀ j, j < 4 → τ'.2.1 q j = iL (if j < i then -w j else w j)) → G_W_writeWeight_141 l v (n + 2) post τ' q (nI i) := by
        refine dn ?_ ?_
        · intro τ' hX' hm'
          refine T_W_writeWeight_141 hq (br_t (by rw [(hX' 4 6 (by omega)).1, hC.1]; exact nI_le (Nat.le_refl _) (by omega)) (T_W_writeWeight_165 (hp τ' (fun i => -w i) hX' (wI_neg hT (Nat.le_refl _) hf4 hw h (fun _ _ => rfl)) (fun i hi => ?_))))
          rw [hm' i hi]
          by_cases z : i < K
          · rw [if_pos z]
          · rw [if_neg z, hw.2.1 i (by omega) hi]; rfl
        · intro i hi ih τ' hX' hm'
          have hi4 : i < 4 := by omega
          refine T_W_writeWeight_141 hq (br_f (by rw [(hX' 4 6 (by omega)).1, hC.1]; exact nI_ge hi (by omega)) ⟨vp_in_nI hi4 (by decide), vp_in_nI hi4 (by decide), ?_⟩)
          rw [nI_clamp (by omega), nI_1, hm' i hi4, if_neg (by omega), iL_neg]
          refine ih _ (hX'.L rfl) (fun j hj => ?_)
          by_cases z : j = i
          · subst z; rw [pL_eq, if_pos (by omega)]
          · rw [pL_j z, hm' j hj]
            by_cases z2 : j < i
            · rw [if_pos z2, if_pos (by omega)]
            · rw [if_neg z2, if_neg (by omega)]
      exact M 0 (Nat.zero_le _) τ hX (fun j hj => by rw [hm j hj, if_neg (by omega)])
    · intro t htK ih hft τ w hX hw hm
      have ht4 : t < 4 := by omega
      have hTt := (hT t (by omega) ht4).1
      have hB := B9_2 (t := t) (by omega)
      have h100 : 100 ^ (t - 2) ≤ 100 := Nat.pow_le_pow_right (n := 100) (by decide) (show t - 2 ≤ 1 by omega)
      have hwn := hw.2.2.2.2.2.2
      have hwb : ∀ i, i < 4 → bd (w i) := fun i hi => bd_n (by have := hwn i hi; omega)
      have hTn : ∀ i, i < 4 → (T t i).natAbs ≤ 32 := fun i hi => Nat.le_trans (hTt.2.2 i hi) hB
      have hTb : ∀ i, i < 4 → bd (T t i) := fun i hi => bd_n (by have := hTn i hi; omega)
      have hMτ : ∀ i, i < 4 → τ.2.1 (21 + t) i = iL (T t i) := fun i hi => by rw [(hX (21 + t) i (by omega)).2.1]; exact hM t (by omega) ht4 i hi
      have hint : vp_in (nI t) 4 := vp_in_nI ht4 (by decide)
      have hsb : bd (wSum (T t) w t) := bd_n (by
        have a := wSum_le hTn hwn hw.1 t ht4
        have b : (t - 1) * (32 * 100 ^ (t - 2)) ≤ 2 * (32 * 100) := Nat.mul_le_mul (by omega) (by omega)
        omega)
      refine T_W_writeWeight_13 hq (br_f (by rw [(hX 4 6 (by omega)).1, hC.1]; exact nI_ge htK (by omega)) ?_)
      have skip : (T t t = 0 ∨ wSum (T t) w t = 0) → G_W_writeWeight_125 l v (n + 2) post τ (nI f) q (nI t) := fun h => T_W_writeWeight_125 hq (by
        rw [nI_1]
        exact ih (by omega) τ w hX (wI_skip hT (by omega) ht4 hw h) hm)
      have N : ∀ s, s ≤ t → G_W_writeWeight_30 l v (n + 2) post τ (nI f) q (nI t) (iL (wSum (T t) w s)) (nI s) := by
        refine dn ?_ ?_
        · refine T_W_writeWeight_30 hq (br_t (nI_le (Nat.le_refl _) (by omega)) ⟨hint, hint, ?_⟩)
          rw [nI_clamp (by omega), hMτ t ht4, iL_eq0 (hTb t ht4), iL_eq0 hsb]
          refine ⟨fun h => skip (Or.inl h), fun hpv => ⟨fun hs => ?_, fun hs => skip (Or.inr hs)⟩⟩
          have M : ∀ i, i ≤ t → ∀ τ', sX (fun k _ => k = q) σ τ' → (∀ j, j < 4 → τ'.2.1 q j = iL (if j < i then w j * T t t else w j)) → G_W_writeWeight_87 l v (n + 2) post τ' (nI f) q (nI t) (iL (wSum (T t) w t)) (nI i) := by
            refine dn ?_ ?_
            · intro τ' hX' hm'
              refine T_W_writeWeight_87 hq (br_t (nI_le (Nat.le_refl _) (by omega)) ⟨hint, ?_⟩)
              rw [nI_clamp (by omega), iL_neg]
              refine k_shorten (w := wNew (T t) w t) hq (by unfold wNew; rw [if_pos (by omega), hw.1]; simp) (fun i hi => ?_) (fun i hi => ?_) (fun τ2 hX2 h2 => T_W_writeWeight_125 hq ?_)
              · have a := wNew_le hT (by omega) ht4 hw i hi
                have b : 100 ^ (t + 1 - 2) ≤ 100 ^ 2 := Nat.pow_le_pow_right (by decide) (by omega)
                omega
              · by_cases z : i = t
                · subst z
                  rw [pL_eq]
                  congr 1
                  unfold wNew
                  rw [if_neg (by omega), if_pos rfl]
                · rw [pL_j z, hm' i hi]
                  congr 1
                  unfold wNew
                  by_cases z2 : i < t
                  · rw [if_pos z2, if_pos z2]
                  · rw [if_neg z2, if_neg z2, if_neg z]
              · rw [nI_1]
                exact ih (by omega) τ2 _ ((hX'.L rfl).tr hX2) (wI_step hT hf1 (by omega) (by omega) ht4 hw hpv) h2
            · intro i hi ih2 τ' hX' hm'
              have hi4 : i < 4 := by omega
              refine T_W_writeWeight_87 hq (br_f (nI_ge hi (by omega)) ⟨vp_in_nI hi4 (by decide), hint, hint, vp_in_nI hi4 (by decide), ?_⟩)
              rw [nI_clamp (n := i) (by omega), nI_clamp (n := t) (by omega), nI_1, hm' i hi4, if_neg (by omega), (hX' (21 + t) t (by omega)).2.1, hM t (by omega) ht4 t ht4, iL_mul]
              refine ih2 _ (hX'.L rfl) (fun j hj => ?_)
              by_cases z : j = i
              · subst z; rw [pL_eq, if_pos (by omega)]
              · rw [pL_j z, hm' j hj]
                by_cases z2 : j < i
                · rw [if_pos z2, if_pos (by omega)]
                · rw [if_neg z2, if_neg (by omega)]
          exact M 0 (Nat.zero_le _) τ hX (fun j hj => by rw [hm j hj, if_neg (by omega)])
        · intro s hs ih2
          refine T_W_writeWeight_30 hq (br_f (nI_ge hs (by omega)) ⟨hint, vp_in_nI (by omega) (by decide), vp_in_nI (by omega) (by decide), ?_⟩)
          rw [nI_clamp (n := s) (by omega), nI_clamp (n := t) (by omega), nI_1, hMτ s (by omega), hm s (by omega), iL_mul, iL_add]
          exact ih2
      exact N 0 (Nat.zero_le _)
  refine E_W_writeWeight (T_W_writeWeight_0 hq (k_fillJ hq (by decide) ⟨vp_in_nI hf4 (by decide), ?_⟩))
  rw [nI_clamp (by omega), nI_1]
  refine L (f + 1) (by omega) (Nat.le_refl _) _ (fun i => if i = f then 1 else 0) ((sX.rf.B (fun _ => rfl)).L rfl) (wI_first hT hf1 hf4 hf (fun _ _ => rfl)) (fun i hi => ?_)
  by_cases z : i = f
  · subst z; rw [pL_eq, if_pos rfl]; rfl
  · rw [pL_j z, pB_row, if_neg z]
    exact if_pos hi
end K26
/-- how many free states there are below s -/
def fr (T : Nat → Nat → Int) : Nat → Nat
  | 0 => 0
  | s + 1 => fr T s + (if 1 ≤ s ∧ T s s = 0 then 1 else 0)
theorem fr_yes {T : Nat → Nat → Int} {s : Nat} (h1 : 1 ≤ s) (h : T s s = 0) : fr T (s + 1) = fr T s + 1 := by
  show fr T s + (if 1 ≤ s ∧ T s s = 0 then 1 else 0) = _
  rw [if_pos ⟨h1, h⟩]
theorem fr_no {T : Nat → Nat → Int} {s : Nat} (h : ¬ T s s = 0) : fr T (s + 1) = fr T s := by
  show fr T s + (if 1 ≤ s ∧ T s s = 0 then 1 else 0) = _
  rw [if_neg (fun z => h z.2)]; rfl
theorem fr_le {T : Nat → Nat → Int} : ∀ s, fr T s ≤ s - 1
  | 0 => Nat.le_refl _
  | s + 1 => by
    have ih := fr_le (T := T) s
    show fr T s + (if 1 ≤ s ∧ T s s = 0 then 1 else 0) ≤ _
    split <;> omega
theorem fr_mono {T : Nat → Nat → Int} {a : Nat} : ∀ b, a ≤ b → fr T a ≤ fr T b
  | 0, h => by rw [show a = 0 by omega]; exact Nat.le_refl _
  | b + 1, h => by
    rcases (show a = b + 1 ∨ a ≤ b by omega) with e | e
    · rw [e]; exact Nat.le_refl _
    · exact Nat.le_trans (fr_mono b e) (Nat.le_add_right _ _)
theorem fr_lt {T : Nat → Nat → Int} {a b : Nat} (h1 : 1 ≤ a) (h : T a a = 0) (hab : a < b) : fr T a < fr T b := by
  have := fr_mono (T := T) (a := a + 1) b hab
  rw [fr_yes h1 h] at this
  exact this
theorem fr_surj {T : Nat → Nat → Int} {j : Nat} : ∀ s, j < fr T s → ∃ f, 1 ≤ f ∧ f < s ∧ T f f = 0 ∧ fr T f = j
  | 0, h => absurd h (Nat.not_lt_zero _)
  | s + 1, h => by
    by_cases q : j < fr T s
    · obtain ⟨f, a, b, c, d⟩ := fr_surj s q
      exact ⟨f, a, by omega, c, d⟩
    · have h : j < fr T s + (if 1 ≤ s ∧ T s s = 0 then 1 else 0) := h
      by_cases z : 1 ≤ s ∧ T s s = 0
      · rw [if_pos z] at h
        exact ⟨s, z.1, Nat.lt_succ_self s, z.2, by omega⟩
      · rw [if_neg z] at h
        exact absurd h q
abbrev tT (K W : Nat) (tb : Nat → Nat) : Nat → Nat → Int := tAll K W tb (K ^ W)
def wC (σ : gs_S) (K W : Nat) (tb : Nat → Nat) : Prop := σ.1 19 5 = nI (fr (tT K W tb) K) ∧ ∀ f, 1 ≤ f → f < K → tT K W tb f f = 0 → ∃ w, sol (tT K W tb) f w ∧ ∀ i, i < 4 → σ.2.1 (26 + fr (tT K W tb) f) i = iL (w i)
def cWt (σ : gs_S) (K W : Nat) (tb : Nat → Nat) : Prop := σ.1 19 4 = 0 ∨ (σ.1 19 4 = 1 ∧ wC σ K W tb)
abbrev fWt (σ σ' : gs_S) : Prop := sX (fun k j => (k = 19 ∧ (j = 4 ∨ j = 5)) ∨ (21 ≤ k ∧ k ≤ 30)) σ σ'
theorem cWt.kept {σ σ' : gs_S} {K W : Nat} {tb : Nat → Nat} {S : Nat → Nat → Prop} (hK : K ≤ 4) (h : cWt σ K W tb) (hX : sX S σ σ') (h4 : ¬ S 19 4) (h5 : ¬ S 19 5) (h26 : ∀ k j, 26 ≤ k → k ≤ 29 → ¬ S k j) : cWt σ' K W tb := by
  rcases h with h | ⟨h1, h2, h3⟩
  · exact Or.inl ((hX 19 4 h4).1.trans h)
  · refine Or.inr ⟨(hX 19 4 h4).1.trans h1, (hX 19 5 h5).1.trans h2, fun f f1 f2 f3 => ?_⟩
    obtain ⟨w, a, b⟩ := h3 f f1 f2 f3
    have := fr_le (T := tT K W tb) f
    exact ⟨w, a, fun i hi => (hX _ i (h26 _ i (by omega) (by omega))).2.1.trans (b i hi)⟩
theorem ly26 {k : Nat} (h : k < 4) : 26 + k < 42 ∧ lyC (26 + k) = .inl (1, 4, 0) := by
  have : k = 0 ∨ k = 1 ∨ k = 2 ∨ k = 3 := by omega
  rcases this with e | e | e | e <;> subst e <;> exact ⟨by decide, rfl⟩
theorem ly21 {k : Nat} (h : k < 4) : 21 + k < 42 ∧ lyC (21 + k) = .inl (1, 4, 0) := by
  have : k = 0 ∨ k = 1 ∨ k = 2 ∨ k = 3 := by omega
  rcases this with e | e | e | e <;> subst e <;> exact ⟨by decide, rfl⟩
section K27
variable {l : Launch} {v : gs_V} {n : Nat} {σ : gs_S} {K W : Nat} {tb : Nat → Nat}
theorem okR.tri (hR : okR K W tb) {m : Nat} (hm : m ≤ K ^ W) : tri K (tAll K W tb m) := tAll_tri hR.1 hR.2.1 hR.2.2.1 hR.2.2.2.1 hR.2.2.2.2 m hm
theorem k_W_find {post : gs_S → Prop} (hR : okR K W tb) (hC : cR σ K W tb) (hc : cWt σ K W tb) (hp : ∀ σ', fWt σ σ' → σ'.1 19 4 = 1 → wC σ' K W tb → post σ') : gM l v lyC 42 me_W_find (n + 4) [.ref (v.2.2 19)] σ (qV v lyC 42 post) := by
  have hK := hR.2.1
  have hK2 := hR.1
  have h256 := pw_le hK hR.2.2.2.1
  refine E_W_find (T_W_find_0 ?_)
  rcases hc with hc | ⟨h1, h2⟩
  · refine br_t hc ?_
    have L1 : ∀ t, t ≤ 4 → ∀ τ, fWt σ τ → τ.1 19 4 = 1 → (∀ s, s < t → ∀ i, i < 4 → τ.2.1 (21 + s) i = iL 0) → G_W_find_15 l v (n + 3) post τ (nI t) := by
      refine dn ?_ ?_
      · intro τ hX e1 hz
        refine T_W_find_15 (br_t (by decide) ?_)
        have hT := hR.tri (Nat.le_refl (K ^ W))
        have L3 : ∀ s, s ≤ K → 1 ≤ s → ∀ τ, fWt σ τ → τ.1 19 4 = 1 → tM τ (tT K W tb) → τ.1 19 5 = nI (fr (tT K W tb) s) → (∀ f, 1 ≤ f → f < s → tT K W tb f f = 0 → ∃ w, sol (tT K W tb) f w ∧ ∀ i, i < 4 → τ.2.1 (26 + fr (tT K W tb) f) i = iL (w i)) → G_W_find_71 l v (n + 3) post τ (nI s) := by
          refine dn ?_ ?_
          · intro _ τ hX e1 hM e5 hW
            exact T_W_find_71 (br_t (by rw [(hX 4 6 (by omega)).1, hC.1]; exact nI_le (Nat.le_refl _) (by omega)) (hp τ hX e1 ⟨e5, hW⟩))
          · intro s hs ih hs1 τ hX e1 hM e5 hW
            have hs4 : s < 4 := by omega
            have hfl := fr_le (T := tT K W tb) s
            have hCτ : cR τ K W tb := hC.kept hX (fun _ => by omega) (fun _ => by omega)
            refine T_W_find_71 (br_f (by rw [hCτ.1]; exact nI_ge hs (by omega)) ⟨vp_in_nI hs4 (by decide), vp_in_nI hs4 (by decide), ?_⟩)
            have hTs := (hT s hs1 hs4).1
            rw [nI_clamp (n := s) (by omega), hM s hs1 hs4 s hs4, iL_eq0 (bd_n (by have q : (tT K W tb s s).natAbs ≤ B9 s := hTs.2.2 s hs4; have := B9_le s; omega)), e5, nI_clamp (n := fr (tT K W tb) s) (by omega)]
            refine ⟨fun h => T_W_find_119 ?_, fun h => ⟨vp_in_nI (by omega) (by decide), ?_⟩⟩
            · rw [nI_1]
              refine ih (by omega) τ hX e1 hM (by rw [fr_no h]; exact e5) (fun f f1 f2 f3 => hW f f1 ?_ f3)
              rcases (show f = s ∨ f < s by omega) with z | z
              · subst z; exact absurd f3 h
              · exact z
            · refine k_writeWeight hR hCτ hT hM hs1 hs h (ly26 (by omega)) (by omega) (fun τ2 w hX2 hw hm2 => T_W_find_119 ?_)
              have e52 : τ2.1 19 5 = nI (fr (tT K W tb) s) := (hX2 19 5 (by omega)).1.trans e5
              rw [nI_1, e52, nI_1]
              refine ih (by omega) _ ((hX.tr (hX2.mono (fun k j h => by omega))).I (Or.inl ⟨rfl, Or.inr rfl⟩)) ?_ ?_ ?_ ?_
              · rw [pI_j (by decide), (hX2 19 4 (by omega)).1]; exact e1
              · intro t t1 t2 i hi
                rw [pI_2, (hX2 (21 + t) i (by omega)).2.1]; exact hM t t1 t2 i hi
              · rw [pI_eq, fr_yes hs1 h]
              · intro f f1 f2 f3
                rcases (show f = s ∨ f < s by omega) with z | z
                · subst z
                  exact ⟨w, hw, fun i hi => by rw [pI_2]; exact hm2 i hi⟩
                · obtain ⟨w', a, b⟩ := hW f f1 z f3
                  have := fr_lt (T := tT K W tb) f1 f3 z
                  exact ⟨w', a, fun i hi => by rw [pI_2, (hX2 (26 + fr (tT K W tb) f) i (by omega)).2.1]; exact b i hi⟩
        have L2 : ∀ m, m ≤ K ^ W → ∀ τ, fWt σ τ → τ.1 19 4 = 1 → tM τ (tAll K W tb m) → G_W_find_38 l v (n + 3) post τ (nI m) := by
          refine dn ?_ ?_
          · intro τ hX e1 hM
            refine T_W_find_38 (br_t (by rw [(hX 4 8 (by omega)).1, hC.2.2.1]; exact nI_le (Nat.le_refl _) (by omega)) ?_)
            refine L3 1 (by omega) (Nat.le_refl _) _ (hX.I (Or.inl ⟨rfl, Or.inr rfl⟩)) ?_ hM ?_ (fun f f1 f2 _ => absurd f1 (by omega))
            · rw [pI_j (by decide)]; exact e1
            · rw [pI_eq]; rfl
          · intro m hm ih τ hX e1 hM
            have hCτ : cR τ K W tb := hC.kept hX (fun _ => by omega) (fun _ => by omega)
            refine T_W_find_38 (br_f (by rw [hCτ.2.2.1]; exact nI_ge hm (by omega)) (k_writeEquation hR hCτ hm (fun τ1 hX1 he1 => ?_)))
            have hC1 : cR τ1 K W tb := hCτ.kept hX1 (fun _ => by omega) (fun _ => by omega)
            refine k_tie hR hC1 (hR.tri (Nat.le_of_lt hm)) (fun t t1 t2 i hi => ?_) he1 (eqv_ok hR.1 hR.2.2.1 hR.2.2.2.1 hR.2.2.2.2 hm) (fun τ2 hX2 hM2 => ?_)
            · rw [(hX1 (21 + t) i (by omega)).2.1]; exact hM t t1 t2 i hi
            · rw [nI_1]
              refine ih τ2 ((hX.tr (hX1.mono (fun k j h => by omega))).tr (hX2.mono (fun k j h => by omega))) ?_ hM2
              rw [(hX2 19 4 (by omega)).1, (hX1 19 4 (by omega)).1]; exact e1
        exact L2 0 (Nat.zero_le _) τ hX e1 (fun t t1 t2 i hi => hz t t2 i hi)
      · intro t ht ih τ hX e1 hz
        refine T_W_find_15 (br_f (nI_ge (a := t) (b := 4) ht (by decide)) ⟨vp_in_nI ht (by decide), ?_⟩)
        rw [nI_clamp (by omega), nI_1]
        refine k_fillJ (ly21 ht) (by decide) (ih _ (hX.B (fun _ => by omega)) e1 (fun s hs i hi => ?_))
        by_cases z : s = t
        · subst z
          rw [pB_row]
          exact if_pos hi
        · rw [pB_k (by omega)]; exact hz s (by omega) i hi
    exact L1 0 (Nat.zero_le _) _ (sX.rf.I (Or.inl ⟨rfl, Or.inl rfl⟩)) pI_eq (fun s hs => absurd hs (Nat.not_lt_zero _))
  · exact br_f (by rw [h1]; decide) (hp σ sX.rf h1 h2)
end K27
