/-! Weights of the reference; conserved and weight. -/
theorem i4 (a b : Nat) : 4 * nI a + nI b = nI (4 * a + b) := by
  rw [show (4 : Int32) = nI 4 from rfl, pk_mul, nI_add]
def gCm (w : Nat → Int) : Nat → Nat
  | 0 => 0
  | m + 1 => Nat.gcd (w m).natAbs (gCm w m)
theorem gC_4 {w : Nat → Int} (h0 : w 0 = 0) : gCm w 4 = g9 w := by
  show Nat.gcd (w 3).natAbs (Nat.gcd (w 2).natAbs (Nat.gcd (w 1).natAbs (Nat.gcd (w 0).natAbs 0))) = _
  rw [h0]
  show Nat.gcd (w 3).natAbs (Nat.gcd (w 2).natAbs (Nat.gcd (w 1).natAbs 0)) = _
  rw [Nat.gcd_zero_right, Nat.gcd_comm, Nat.gcd_comm (w 2).natAbs]
  rfl
theorem gC_1 {w : Nat → Int} (h0 : w 0 = 0) : gCm w 1 = 0 := by
  show Nat.gcd (w 0).natAbs 0 = 0
  rw [h0]; rfl
theorem gC_le {w : Nat → Int} (h : ∀ i, i < 4 → (w i).natAbs < 2 ^ 45) : ∀ m, m ≤ 4 → gCm w m < 2 ^ 45
  | 0, _ => by show 0 < 2 ^ 45; decide
  | m + 1, hm => by
    have ih := gC_le h m (by omega)
    have hb := h m (by omega)
    show Nat.gcd (w m).natAbs (gCm w m) < _
    rcases Nat.eq_zero_or_pos (w m).natAbs with e | e
    · rw [e, Nat.gcd_zero_left]; exact ih
    · have := Nat.gcd_le_left (n := gCm w m) (m := (w m).natAbs) e
      omega
theorem shr_1 {v : Nat → Int} (h : g9 v ≤ 1) {i : Nat} (h1 : 1 ≤ i) (hi : i < 4) : shr v i = v i := by
  rcases (show g9 v = 0 ∨ g9 v = 1 by omega) with e | e
  · rw [shr_0 (g9_zero e h1 hi), g9_zero e h1 hi]
  · unfold shr
    rw [e]
    exact Int.tdiv_one _
section K28
variable {l : Launch} {v : gs_V} {n : Nat} {σ : gs_S}
theorem k_reduce {post : gs_S → Prop} {e r : Nat → Int} {t m k : Nat} (ht1 : 1 ≤ t) (ht : t < 4) (he0 : e 0 = 0) (hr0 : r 0 = 0) (he : ∀ i, 1 ≤ i → i < 4 → σ.2.1 24 i = iL (e i)) (hr : ∀ i, 1 ≤ i → i < 4 → σ.2.1 23 (4 * t + i) = iL (r i)) (hbe : ∀ i, i < 4 → (e i).natAbs ≤ m) (hbr : ∀ i, i < 4 → (r i).natAbs ≤ k) (hmk : 2 * (m * k) < 2 ^ 45) (hp : ∀ σ', sX (fun k _ => k = 24) σ σ' → (∀ i, 1 ≤ i → i < 4 → σ'.2.1 24 i = iL (red e r t i)) → post σ') : gM l v lyM 33 me_M_reduce (n + 2) [.ref (v.2.2 0), .int (nI t), .int (nI t)] σ (qV v lyM 33 post) := by
  have hw : ∀ i, i < 4 → (cm e r t i).natAbs < 2 ^ 45 := fun i hi => by
    have := cm_le hbe hbr ht hi
    omega
  have h0 : cm e r t 0 = 0 := cm_00 he0 hr0
  have hgb : bd ((g9 (cm e r t) : Nat) : Int) := bd_nat (by rw [← gC_4 h0]; have := gC_le hw 4 (Nat.le_refl _); omega)
  have fin : ∀ τ, sX (fun k _ => k = 24) σ τ → (∀ i, 1 ≤ i → i < 4 → τ.2.1 24 i = iL (cm e r t i)) → G_M_reduce_85 l v (n + 1) post τ (iL ((gCm (cm e r t) 4 : Nat) : Int)) 1 := by
    intro τ hX hτ
    rw [gC_4 h0]
    have hle : iL ((g9 (cm e r t) : Nat) : Int) ≤ 1 ↔ g9 (cm e r t) ≤ 1 := by
      have := iL_le hgb bd_1
      rw [iL_1] at this
      rw [this]; omega
    by_cases q : g9 (cm e r t) ≤ 1
    · refine T_M_reduce_85 (br_f (by decide) (br_t (hle.mpr q) (T_M_reduce_121 (hp τ hX (fun i h1 h2 => ?_)))))
      rw [hτ i h1 h2]
      unfold red
      rw [shr_1 q h1 h2]
    · have L : ∀ i, i ≤ 4 → 1 ≤ i → ∀ τ, sX (fun k _ => k = 24) σ τ → (∀ j, 1 ≤ j → j < 4 → τ.2.1 24 j = iL (if j < i then red e r t j else cm e r t j)) → G_M_reduce_85 l v (n + 1) post τ (iL ((g9 (cm e r t) : Nat) : Int)) (nI i) := by
        refine dn ?_ ?_
        · intro _ τ hX hτ
          exact T_M_reduce_85 (br_t (by decide) (T_M_reduce_121 (hp τ hX (fun i h1 h2 => by rw [hτ i h1 h2, if_pos h2]))))
        · intro i hi ih h1 τ hX hτ
          refine T_M_reduce_85 (br_f (nI_ge (a := i) (b := 4) hi (by decide)) (br_f (fun z => q (hle.mp z)) ⟨vp_in_nI hi (by decide), by rw [iL_eq0 hgb]; omega, vp_in_nI hi (by decide), ?_⟩))
          rw [nI_clamp (by omega), nI_1]
          refine ih (by omega) _ (hX.L rfl) (fun j hj1 hj => ?_)
          by_cases z : j = i
          · subst z
            rw [pL_eq, hτ j hj1 hj, if_neg (by omega), iL_div (bd_n (hw j hj)) hgb, if_pos (by omega)]; rfl
          · rw [pL_j z, hτ j hj1 hj]
            by_cases z2 : j < i
            · rw [if_pos z2, if_pos (by omega)]
            · rw [if_neg z2, if_neg (by omega)]
      exact L 1 (by decide) (Nat.le_refl _) τ hX (fun j h1 h2 => by rw [hτ j h1 h2, if_neg (by omega)])
  refine E_M_reduce (T_M_reduce_0 ?_)
  rw [i4, nI_clamp (by omega), nI_clamp (by omega), hr t ht1 ht, he t ht1 ht]
  refine ⟨vp_in_nI (by omega) (by decide), vp_in_nI ht (by decide), ?_⟩
  have L : ∀ i, i ≤ 4 → 1 ≤ i → ∀ τ, sX (fun k _ => k = 24) σ τ → (∀ j, 1 ≤ j → j < 4 → τ.2.1 24 j = iL (if j < i then cm e r t j else e j)) → G_M_reduce_25 l v (n + 1) post τ (nI t) (iL (r t)) (iL (e t)) (iL ((gCm (cm e r t) i : Nat) : Int)) (nI i) := by
    refine dn ?_ ?_
    · intro _ τ hX hτ
      exact T_M_reduce_25 (br_t (by decide) (fin τ hX (fun i h1 h2 => by rw [hτ i h1 h2, if_pos h2])))
    · intro i hi ih h1 τ hX hτ
      refine T_M_reduce_25 (br_f (nI_ge (a := i) (b := 4) hi (by decide)) ?_)
      rw [i4, nI_clamp (n := i) (by omega), nI_clamp (n := 4 * t + i) (by omega), pL_eq, hτ i h1 hi, if_neg (by omega), (hX 23 (4 * t + i) (by omega)).2.1, hr i h1 hi, iL_mul, iL_mul, iL_sub]
      refine ⟨vp_in_nI hi (by decide), vp_in_nI (by omega) (by decide), vp_in_nI hi (by decide), vp_in_nI hi (by decide), ?_⟩
      have hg := gC_le hw i (by omega)
      refine k_divisor (z := cm e r t i) (bd_n (hw i hi)) (bd_nat (by omega)) ?_
      rw [nI_1, Int.natAbs_natCast]
      refine ih (by omega) _ (hX.L rfl) (fun j hj1 hj => ?_)
      by_cases z : j = i
      · subst z
        rw [pL_eq, if_pos (by omega)]; rfl
      · rw [pL_j z, hτ j hj1 hj]
        by_cases z2 : j < i
        · rw [if_pos z2, if_pos (by omega)]
        · rw [if_neg z2, if_neg (by omega)]
  have := L 1 (by decide) (Nat.le_refl _) σ sX.rf (fun j h1 h2 => by rw [he j h1 h2, if_neg (by omega)])
  rw [gC_1 h0] at this
  exact this
variable {K W : Nat} {tb : Nat → Nat}
theorem k_equation {post : gs_S → Prop} {m : Nat} (hR : okR K W tb) (hC : mR σ K W tb) (hm : m < K ^ W) (hp : ∀ σ', sX (fun k _ => k = 24) σ σ' → (∀ s, 1 ≤ s → s < 4 → σ'.2.1 24 s = iL (eqv K W tb m s)) → post σ') : gM l v lyM 33 me_M_equation (n + 2) [.ref (v.2.2 0), .int (nI m)] σ (qV v lyM 33 post) := by
  have hK := hR.2.1
  have hK2 := hR.1
  have hW := hR.2.2.2.1
  have hW1 := hR.2.2.1
  have h256 := pw_le hK hW
  have h64 := pw_le1 hK hW
  have hpos := pw_pos (W := W - 1) hK2
  have hps := pw_s (K := K) hW1
  have htb := hR.2.2.2.2 m hm
  have hdN : m / K ^ (W - 1) < K := Nat.div_lt_of_lt_mul (by rw [← hps]; exact hm)
  have hle : K ^ (W - 1) ≤ K ^ W := Nat.pow_le_pow_right (by omega) (by omega)
  have L2 : ∀ j, j ≤ W → 1 ≤ j → ∀ τ, sX (fun k _ => k = 24) σ τ → (∀ s, s < 4 → τ.2.1 24 s = iL (ind (tb m) s - ind (m / K ^ (W - 1)) s - (smu (gA K W tb m) (W - 1) s - smu (gA K W tb m) (W - j) s) + (smu (gB K W tb m) (W - 1) s - smu (gB K W tb m) (W - j) s))) → G_M_equation_52 l v (n + 1) post τ (nI m) (nI j) := by
    refine dn ?_ ?_
    · intro _ τ hX hτ
      refine T_M_equation_52 (br_t (by rw [(hX 0 3 (by omega)).1, hC.2.1]; exact nI_le (Nat.le_refl _) (by omega)) (hp τ hX (fun s h1 hs => ?_)))
      rw [hτ s hs, Nat.sub_self]
      congr 1
      unfold eqv eq0
      rw [if_neg (by omega)]
      show _ - (_ - 0) + (_ - 0) = _
      omega
    · intro j hj ih h1 τ hX hτ
      have hCτ : mR τ K W tb := hC.kept hX (fun _ _ => by omega) (fun _ => by omega)
      refine T_M_equation_52 (br_f (by rw [hCτ.2.1]; exact nI_ge hj (by omega)) ?_)
      rw [hCτ.2.2.1, hCτ.1, hCτ.2.1, show nI W - 1 = nI (W - 1) from pk_sub (a := W) (b := 1) hW1, show nI (W - 1) - nI j = nI (W - 1 - j) from pk_sub (by omega), jR_n (by omega) hpos (by omega)]
      refine ⟨nI_ne0 hpos (by omega), k_powerOf (by omega) ?_⟩
      have hp1 : 0 < K ^ (W - 1 - j) := Nat.pow_pos (by omega)
      have hp2 : K ^ (W - 1 - j) ≤ K ^ W := Nat.pow_le_pow_right (by omega) (by omega)
      have hmod : m % K ^ (W - 1) < K ^ (W - 1) := Nat.mod_lt _ hpos
      have hd1 : m % K ^ (W - 1) / K ^ (W - 1 - j) ≤ m % K ^ (W - 1) := Nat.div_le_self _ _
      have ht1 := hR.2.2.2.2 (m % K ^ (W - 1) / K ^ (W - 1 - j)) (by omega)
      rw [pk_div (by omega) hp1 (by omega), nI_clamp (n := m % K ^ (W - 1) / K ^ (W - 1 - j)) (by omega), hCτ.2.2.2.2 _ (by omega), nI_clamp (n := tb (m % K ^ (W - 1) / K ^ (W - 1 - j))) (by omega), hCτ.1, hCτ.2.1, show nI W - nI j = nI (W - j) from pk_sub (by omega)]
      refine ⟨nI_ne0 hp1 (by omega), vp_in_nI (by omega) (by decide), vp_in_nI (by omega) (by decide), vp_in_nI (by omega) (by decide), k_powerOf (by omega) ?_⟩
      have hq1 : 0 < K ^ (W - j) := Nat.pow_pos (by omega)
      have hq2 : K ^ (W - j) ≤ K ^ W := Nat.pow_le_pow_right (by omega) (by omega)
      have hd2 : m / K ^ (W - j) ≤ m := Nat.div_le_self _ _
      have ht2 := hR.2.2.2.2 (m / K ^ (W - j)) (by omega)
      have eB : m / K ^ (W - j) = m / K / K ^ (W - 1 - j) := by
        rw [Nat.div_div_eq_div_mul, Nat.mul_comm, ← Nat.pow_succ, show (W - 1 - j).succ = W - j by omega]
      have h1 : ∀ s, s < 4 → (gs_pL τ 24 (tb (m % K ^ (W - 1) / K ^ (W - 1 - j))) (τ.2.1 24 (tb (m % K ^ (W - 1) / K ^ (W - 1 - j))) - 1)).2.1 24 s = iL (ind (tb m) s - ind (m / K ^ (W - 1)) s - (smu (gA K W tb m) (W - 1) s - smu (gA K W tb m) (W - j) s) + (smu (gB K W tb m) (W - 1) s - smu (gB K W tb m) (W - j) s) - gA K W tb m (W - 1 - j) s) := fun s hs => by
        by_cases q : s = tb (m % K ^ (W - 1) / K ^ (W - 1 - j))
        · subst q
          rw [pL_eq, hτ _ hs, show gA K W tb m (W - 1 - j) (tb (m % K ^ (W - 1) / K ^ (W - 1 - j))) = 1 from if_pos rfl, ← iL_sub]; rfl
        · rw [pL_j q, hτ _ hs, show gA K W tb m (W - 1 - j) s = 0 from if_neg (fun z => q z.symm), Int.sub_zero]
      have hX1 := hX.L (k := 24) (j := tb (m % K ^ (W - 1) / K ^ (W - 1 - j))) (x := τ.2.1 24 (tb (m % K ^ (W - 1) / K ^ (W - 1 - j))) - 1) rfl
      generalize gs_pL τ 24 (tb (m % K ^ (W - 1) / K ^ (W - 1 - j))) (τ.2.1 24 (tb (m % K ^ (W - 1) / K ^ (W - 1 - j))) - 1) = τ1 at hX1 h1 ⊢
      have hC1 : mR τ1 K W tb := hC.kept hX1 (fun _ _ => by omega) (fun _ => by omega)
      rw [pk_div (by omega) hq1 (by omega), nI_clamp (n := m / K ^ (W - j)) (by omega), hC1.2.2.2.2 _ (by omega), nI_clamp (n := tb (m / K ^ (W - j))) (by omega), nI_1]
      refine ⟨nI_ne0 hq1 (by omega), vp_in_nI (by omega) (by decide), vp_in_nI (by omega) (by decide), vp_in_nI (by omega) (by decide), ih (by omega) _ (hX1.L rfl) (fun s hs => ?_)⟩
      have sA : smu (gA K W tb m) (W - j) s = smu (gA K W tb m) (W - (j + 1)) s + gA K W tb m (W - 1 - j) s := by
        rw [show W - j = (W - (j + 1)) + 1 by omega]
        show smu (gA K W tb m) (W - (j + 1)) s + gA K W tb m (W - (j + 1)) s = _
        rw [show W - (j + 1) = W - 1 - j by omega]
      have sB : smu (gB K W tb m) (W - j) s = smu (gB K W tb m) (W - (j + 1)) s + gB K W tb m (W - 1 - j) s := by
        rw [show W - j = (W - (j + 1)) + 1 by omega]
        show smu (gB K W tb m) (W - (j + 1)) s + gB K W tb m (W - (j + 1)) s = _
        rw [show W - (j + 1) = W - 1 - j by omega]
      by_cases q : s = tb (m / K ^ (W - j))
      · have gb : gB K W tb m (W - 1 - j) s = 1 := by
          unfold gB
          rw [← eB, q]; exact if_pos rfl
        subst q
        rw [pL_eq, h1 _ hs, show (1 : Int64) = iL 1 from rfl, iL_add]
        congr 1
        omega
      · have gb : gB K W tb m (W - 1 - j) s = 0 := by
          unfold gB
          rw [← eB]; exact if_neg (fun z => q z.symm)
        rw [pL_j q, h1 _ hs]
        congr 1
        omega
  have L1 : ∀ i, i ≤ 4 → ∀ τ, sX (fun k _ => k = 24) σ τ → (∀ s, s < i → τ.2.1 24 s = iL 0) → G_M_equation_2 l v (n + 1) post τ (nI m) (nI i) := by
    refine dn ?_ ?_
    · intro τ hX h0
      have hCτ : mR τ K W tb := hC.kept hX (fun _ _ => by omega) (fun _ => by omega)
      refine T_M_equation_2 (br_t (by decide) ?_)
      rw [nI_clamp (by omega), hCτ.2.2.2.2 _ hm, hCτ.2.2.1, nI_clamp (n := tb m) (by omega), pk_div (by omega) hpos (by omega), nI_clamp (n := m / K ^ (W - 1)) (by omega)]
      refine ⟨vp_in_nI (by omega) (by decide), vp_in_nI (by omega) (by decide), vp_in_nI (by omega) (by decide), nI_ne0 hpos (by omega), vp_in_nI (by omega) (by decide), vp_in_nI (by omega) (by decide), ?_⟩
      have h1 : ∀ s, s < 4 → (gs_pL τ 24 (tb m) (τ.2.1 24 (tb m) + 1)).2.1 24 s = iL (ind (tb m) s) := fun s hs => by
        by_cases q : s = tb m
        · subst q
          rw [pL_eq, h0 _ hs, show ind (tb m) (tb m) = 1 from if_pos rfl]; rfl
        · rw [pL_j q, h0 _ hs, show ind (tb m) s = 0 from if_neg (fun z => q z.symm)]
      have hX1 := hX.L (k := 24) (j := tb m) (x := τ.2.1 24 (tb m) + 1) rfl
      generalize gs_pL τ 24 (tb m) (τ.2.1 24 (tb m) + 1) = τ1 at hX1 h1 ⊢
      refine L2 1 hW1 (Nat.le_refl _) _ (hX1.L rfl) (fun s hs => ?_)
      have : iL (ind (tb m) s - ind (m / K ^ (W - 1)) s - (smu (gA K W tb m) (W - 1) s - smu (gA K W tb m) (W - 1) s) + (smu (gB K W tb m) (W - 1) s - smu (gB K W tb m) (W - 1) s)) = iL (ind (tb m) s - ind (m / K ^ (W - 1)) s) := by
        congr 1
        omega
      rw [this]
      by_cases q : s = m / K ^ (W - 1)
      · subst q
        rw [pL_eq, h1 _ hs, show ind (m / K ^ (W - 1)) (m / K ^ (W - 1)) = 1 from if_pos rfl, ← iL_sub]; rfl
      · rw [pL_j q, h1 _ hs, show ind (m / K ^ (W - 1)) s = 0 from if_neg (fun z => q z.symm), Int.sub_zero]
    · intro i hi ih τ hX h0
      refine T_M_equation_2 (br_f (nI_ge (a := i) (b := 4) hi (by decide)) ⟨vp_in_nI hi (by decide), ?_⟩)
      rw [nI_clamp (by omega), nI_1]
      refine ih _ (hX.L rfl) (fun s hs => ?_)
      by_cases q : s = i
      · subst q; rw [pL_eq]; rfl
      · rw [pL_j q]; exact h0 s (by omega)
  exact E_M_equation (T_M_equation_0 (L1 0 (Nat.zero_le _) σ sX.rf (fun s hs => absurd hs (Nat.not_lt_zero _))))
def mM (σ : gs_S) (T R : Nat → Nat → Int) : Prop := ∀ t, 1 ≤ t → t < 4 → (σ.1 22 t = 0 ↔ T t t = 0) ∧ (T t t ≠ 0 → ∀ i, 1 ≤ i → i < 4 → σ.2.1 23 (4 * t + i) = iL (R t i))
abbrev fKe (σ σ' : gs_S) : Prop := sX (fun k _ => 22 ≤ k ∧ k ≤ 24) σ σ'
theorem k_keep {post : gs_S → Prop} {T : Nat → Nat → Int} {e0 : Nat → Int} (hR : okR K W tb) (hC : mR σ K W tb) (hT : tri K T) (hM : mM σ T T) (h0 : ∀ s, 1 ≤ s → s < 4 → σ.2.1 24 s = iL (e0 s)) (he0 : rowOk (K - 1) e0) (hp : ∀ σ', fKe σ σ' → mM σ' (tieF T e0 (K - 1)) (tieF T e0 (K - 1)) → post σ') : gM l v lyM 33 me_M_keep (n + 3) [.ref (v.2.2 0)] σ (qV v lyM 33 post) := by
  have hK := hR.2.1
  have hK2 := hR.1
  have L : ∀ t, t < K → ∀ e τ, fKe σ τ → mM τ T T → (∀ s, 1 ≤ s → s < 4 → τ.2.1 24 s = iL (e s)) → (1 ≤ t → rowOk t e) → tieF T e t = tieF T e0 (K - 1) → G_M_keep_7 l v (n + 2) post τ (nI t) := by
    intro t
    induction t with
    | zero =>
      intro _ e τ hX hM _ _ hE
      refine T_M_keep_7 (br_t (by decide) (hp τ hX ?_))
      rw [← hE]; exact hM
    | succ t ih =>
      intro htK e τ hX hM he hr hE
      have ht4 : t + 1 < 4 := by omega
      have ht1 : 1 ≤ t + 1 := by omega
      have hr := hr (by omega)
      have hB := B9_le (t + 1)
      have hTt := (hT (t + 1) (by omega) ht4).1
      have bde : ∀ i, i < 4 → bd (e i) := fun i hi => bd_n (by have := hr.2.2 i hi; omega)
      have hE' : (if e (t + 1) = 0 then tieF T e t else if T (t + 1) (t + 1) = 0 then (fun s => if s = t + 1 then e else T s) else tieF T (red e (T (t + 1)) (t + 1)) t) = tieF T e0 (K - 1) := hE
      have hin : vp_in (nI (t + 1)) 4 := vp_in_nI ht4 (by decide)
      refine T_M_keep_7 (br_f (nI_ge (a := 0) (b := t + 1) (by omega) (by omega)) ⟨hin, ?_⟩)
      rw [nI_clamp (by omega), he _ ht1 ht4, iL_eq0 (bde _ ht4)]
      have cell : τ.2.1 24 (nI (t + 1)).toNatClampNeg = 0 ↔ e (t + 1) = 0 := by
        rw [nI_clamp (by omega), he _ ht1 ht4, iL_eq0 (bde _ ht4)]
      by_cases q : e (t + 1) = 0
      · rw [if_pos q] at hE'
        refine br_t q (T_M_keep_68 ⟨hin, br_t (cell.mpr q) (T_M_keep_85 ?_)⟩)
        rw [nI_dn]
        exact ih (by omega) e τ hX hM he (fun _ => hr.down q (by omega)) hE'
      · rw [if_neg q] at hE'
        refine br_f q ⟨hin, ?_⟩
        by_cases q2 : T (t + 1) (t + 1) = 0
        · rw [if_pos q2] at hE'
          refine br_f' ((hM (t + 1) ht1 ht4).1.mpr q2) ⟨hin, ?_⟩
          have M : ∀ i, i ≤ 4 → 1 ≤ i → ∀ τ', sX (fun k _ => k = 23 ∨ k = 22) τ τ' → τ'.1 22 (t + 1) = 1 → (∀ s, s ≠ t + 1 → τ'.1 22 s = τ.1 22 s) → (∀ j, 1 ≤ j → j < i → τ'.2.1 23 (4 * (t + 1) + j) = iL (e j)) → (∀ j, (j < 4 * (t + 1) ∨ 4 * (t + 1) + 4 ≤ j) → τ'.2.1 23 j = τ.2.1 23 j) → G_M_keep_40 l v (n + 2) post τ' (nI (t + 1)) (nI i) := by
            refine dn ?_ ?_
            · intro _ τ' hX' a1 a2 a3 a4
              refine T_M_keep_40 (br_t (by decide) (hp τ' (hX.tr (hX'.mono (fun k j h => by omega))) ?_))
              rw [← hE']
              intro s hs1 hs2
              show (_ ↔ (if s = t + 1 then e else T s) s = 0) ∧ ((if s = t + 1 then e else T s) s ≠ 0 → ∀ i, 1 ≤ i → i < 4 → _ = iL ((if s = t + 1 then e else T s) i))
              by_cases q3 : s = t + 1
              · subst q3
                rw [if_pos rfl, a1]
                exact ⟨⟨fun h => absurd h (by decide), fun h => absurd h q⟩, fun _ i h1 h2 => a3 i h1 h2⟩
              · rw [if_neg q3, a2 s q3]
                refine ⟨(hM s hs1 hs2).1, fun h i h1 h2 => ?_⟩
                rw [a4 _ (by omega)]
                exact (hM s hs1 hs2).2 h i h1 h2
            · intro i hi ih2 h1 τ' hX' a1 a2 a3 a4
              refine T_M_keep_40 (br_f (nI_ge (a := i) (b := 4) hi (by decide)) ⟨vp_in_nI hi (by decide), ?_⟩)
              rw [i4, nI_clamp (n := i) (by omega), nI_clamp (n := 4 * (t + 1) + i) (by omega), nI_1, (hX' 24 i (by omega)).2.1, he i h1 hi]
              refine ⟨vp_in_nI (by omega) (by decide), ih2 (by omega) _ (hX'.L (Or.inl rfl)) a1 a2 (fun j h2 h3 => ?_) (fun j hj => ?_)⟩
              · by_cases z : j = i
                · subst z; rw [pL_eq]
                · rw [pL_j (by omega)]; exact a3 j h2 (by omega)
              · rw [pL_j (by omega)]; exact a4 j hj
          exact M 1 (by decide) (Nat.le_refl _) _ (sX.rf.I (Or.inr rfl)) pI_eq (fun s hs => pI_j hs) (fun j h1 h2 => absurd h1 (by omega)) (fun j _ => rfl)
        · rw [if_neg q2] at hE'
          refine br_t' (fun z => q2 ((hM (t + 1) ht1 ht4).1.mp z)) (T_M_keep_68 ⟨hin, br_f (fun z => q (cell.mp z)) ?_⟩)
          refine k_reduce (e := e) (r := T (t + 1)) (m := 2048) (k := 2048) ht1 ht4 hr.1 hTt.1 he ((hM (t + 1) ht1 ht4).2 q2) (fun i hi => Nat.le_trans (hr.2.2 i hi) hB) (fun i hi => Nat.le_trans (hTt.2.2 i hi) hB) (by decide) (fun τ2 hX2 h2 => T_M_keep_85 ?_)
          rw [nI_dn]
          refine ih (by omega) _ τ2 (hX.tr (hX2.mono (fun k j h => by omega))) (fun s s1 s2 => ?_) h2 (fun h => hr.red hTt (by omega) h) hE'
          rw [(hX2 22 s (by omega)).1]
          exact ⟨(hM s s1 s2).1, fun z i i1 i2 => by rw [(hX2 23 (4 * s + i) (by omega)).2.1]; exact (hM s s1 s2).2 z i i1 i2⟩
  refine E_M_keep (T_M_keep_0 ?_)
  rw [hC.1, show nI K - 1 = nI (K - 1) from pk_sub (a := K) (b := 1) (by omega)]
  exact L (K - 1) (by omega) e0 σ sX.rf hM h0 (fun _ => he0) rfl
end K28
