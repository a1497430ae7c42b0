/-! The reference's inverse; inverse and undo with a rule. -/
section K23
variable {l : Launch} {v : gs_V} {n : Nat} {σ : gs_S} {K W : Nat} {tb : Nat → Nat}
theorem k_M_madeOf {post : Int32 → gs_S → Prop} {r u : Nat} (hR : okR K W tb) (hC : mR σ K W tb) (hr : r < 2 ^ 30) (hu : u ≤ 5) (hp : post (nI (md K W tb u r)) σ) : gM l v lyM 33 me_M_madeOf (n + 2) [.ref (v.2.2 0), .int (nI r), .int (nI u)] σ (qI v lyM 33 post) := by
  have hK := hR.2.1
  have hK2 := hR.1
  have hKW := pw_le hR.2.1 hR.2.2.2.1
  have hWp := pw_pos (W := W) hR.1
  have L : ∀ j, j ≤ u → ∀ x, x * K ^ j + md K W tb j r = md K W tb u r → G_M_madeOf_7 l v (n + 1) post σ (nI r) (nI x) (nI j - 1) := by
    intro j
    induction j with
    | zero =>
      intro _ x hx
      have e : x = md K W tb u r := by
        rw [Nat.pow_zero, Nat.mul_one] at hx
        exact hx
      rw [e]
      exact T_M_madeOf_7 (br_t (by decide) hp)
    | succ j ih =>
      intro hj x hx
      have hd : r / K ^ j < 2 ^ 31 := Nat.lt_of_le_of_lt (Nat.div_le_self _ _) (by omega)
      have hm : r / K ^ j % K ^ W < K ^ W := Nat.mod_lt _ hWp
      have hpj : 0 < K ^ j := Nat.pow_pos (by omega)
      have hpl := pw5 (e := j) hK (by omega)
      rw [nI_pred j]
      refine T_M_madeOf_7 (br_f (nI_pos (by omega)) ?_)
      rw [hC.1]
      refine k_powerOf (by omega) ?_
      rw [hC.2.2.2.1, pk_div (by omega) hpj (by omega), jR_n hd hWp (by omega), nI_clamp (n := r / K ^ j % K ^ W) (by omega), hC.2.2.2.2 _ hm, pk_mul, nI_add, show nI j + (-1) = nI j - 1 from (Int32.sub_eq_add_neg _ _).symm]
      refine ⟨nI_ne0 hpj (by omega), nI_ne0 hWp (by omega), vp_in_nI (by omega) (by decide), ih (by omega) _ ?_⟩
      rw [← hx, Nat.add_mul, Nat.pow_succ, Nat.mul_assoc, Nat.mul_comm K (K ^ j)]
      show x * (K ^ j * K) + tb (r / K ^ j % K ^ W) * K ^ j + md K W tb j r = x * (K ^ j * K) + (md K W tb j r + tb (r / K ^ j % K ^ W) * K ^ j)
      omega
  exact E_M_madeOf (T_M_madeOf_0 (L u (Nat.le_refl _) 0 (by rw [Nat.zero_mul, Nat.zero_add])))
/-- for each row of made cells the cell that it tells -/
def undn (f : Nat → Int32) (K W : Nat) (tb : Nat → Nat) (u p x : Nat) : Prop := ∀ m, m < 1024 → (f m = -1 ∧ ∀ n, n < x → md K W tb u n ≠ m) ∨ ∃ n, n < x ∧ md K W tb u n = m ∧ f m = nI (dg K W u p n)
theorem k_tells {post : Int32 → gs_S → Prop} {u p : Nat} (hR : okR K W tb) (hC : mR σ K W tb) (hu1 : 1 ≤ u) (hu : u ≤ 5) (hpl : p < u + W - 1) (hp0 : ∀ σ', sX (fun k _ => k = 20) σ σ' → ¬ told K W tb u p → post 0 σ') (hp1 : ∀ σ', sX (fun k _ => k = 20) σ σ' → told K W tb u p → undn (σ'.1 20) K W tb u p (K ^ (u + W - 1)) → post 1 σ') : gM l v lyM 33 me_M_tells (n + 3) [.ref (v.2.2 0), .int (nI u), .int (nI p)] σ (qI v lyM 33 post) := by
  have hK := hR.2.1
  have hK2 := hR.1
  have hW := hR.2.2.2.1
  have hW1 := hR.2.2.1
  have hrows := pw8 (e := u + W - 1) hK (by omega)
  have hKu := pw5 (e := u) hK hu
  have hun := pw8 (e := u + W - 2 - p) hK (by omega)
  have hunp : 0 < K ^ (u + W - 2 - p) := Nat.pow_pos (by omega)
  have elen : nI u + nI W - 1 = nI (u + W - 1) := by
    rw [nI_add]
    exact pk_sub (a := u + W) (b := 1) (by omega)
  have elen2 : nI (u + W - 1) - 1 - nI p = nI (u + W - 2 - p) := by
    rw [show nI (u + W - 1) - 1 = nI (u + W - 1 - 1) from pk_sub (a := u + W - 1) (b := 1) (by omega), pk_sub (a := u + W - 1 - 1) (b := p) (by omega)]
    congr 1
  have L61 : ∀ x, x ≤ K ^ (u + W - 1) → ∀ τ, sX (fun k _ => k = 20) σ τ → (∀ a b, a < x → b < x → md K W tb u a = md K W tb u b → dg K W u p a = dg K W u p b) → undn (τ.1 20) K W tb u p x → G_M_tells_61 l v (n + 2) post τ (nI u) (nI (K ^ (u + W - 1))) (nI (K ^ (u + W - 2 - p))) (nI x) := by
    refine dn ?_ ?_
    · intro τ hX hI hO
      exact T_M_tells_61 (br_t (nI_le (Nat.le_refl _) (by omega)) (hp1 τ hX (fun a b ha hb => hI a b ha hb) hO))
    · intro x hx ih τ hX hI hO
      have hCτ : mR τ K W tb := hC.kept hX (fun _ _ => by omega) (fun _ => by omega)
      have hml := md_lt hR x u
      have hd : x / K ^ (u + W - 2 - p) < 2 ^ 31 := Nat.lt_of_le_of_lt (Nat.div_le_self _ _) (by omega)
      have hdl : dg K W u p x < K := Nat.mod_lt _ (by omega)
      refine T_M_tells_61 (br_f (nI_ge hx (by omega)) (k_M_madeOf hR hCτ (by omega) hu ?_))
      rw [hCτ.1, pk_div (by omega) hunp (by omega), jR_n hd (by omega) (by omega), nI_clamp (n := md K W tb u x) (by omega)]
      have go : (∀ a, a < x → md K W tb u a = md K W tb u x → dg K W u p a = dg K W u p x) → G_M_tells_113 l v (n + 2) post τ (nI u) (nI (K ^ (u + W - 1))) (nI (K ^ (u + W - 2 - p))) (nI x) (nI (md K W tb u x)) (nI (dg K W u p x)) := fun hs => by
        refine T_M_tells_113 ⟨vp_in_nI (by omega) (by decide), ?_⟩
        rw [nI_clamp (by omega), nI_1]
        refine ih _ (hX.I rfl) (fun a b ha hb he => ?_) (fun m hm => ?_)
        · by_cases ea : a = x
          · by_cases eb : b = x
            · rw [ea, eb]
            · rw [ea]; rw [ea] at he; exact (hs b (by omega) he.symm).symm
          · by_cases eb : b = x
            · rw [eb]; rw [eb] at he; exact hs a (by omega) he
            · exact hI a b (by omega) (by omega) he
        · by_cases e : m = md K W tb u x
          · rw [e, pI_eq]; exact Or.inr ⟨x, by omega, rfl, rfl⟩
          · rw [pI_j e]
            rcases hO m hm with ⟨q1, q2⟩ | ⟨n1, q1, q2, q3⟩
            · refine Or.inl ⟨q1, fun a ha => ?_⟩
              by_cases ea : a = x
              · rw [ea]; exact fun z => e z.symm
              · exact q2 a (by omega)
            · exact Or.inr ⟨n1, by omega, q2, q3⟩
      refine ⟨nI_ne0 hunp (by omega), nI_ne0 (by omega) (by omega), vp_in_nI (by omega) (by decide), fun h1 => go ?_, fun h1 => ⟨vp_in_nI (by omega) (by decide), fun h2 => go ?_, fun h2 => ?_⟩⟩
      · rcases hO (md K W tb u x) (by omega) with ⟨_, q⟩ | ⟨n0, hn0, hm0, e0⟩
        · exact fun a ha he => absurd he (q a ha)
        · rw [e0] at h1
          have : dg K W u p n0 < K := Nat.mod_lt _ (by omega)
          exact absurd h1 (nI_pos (by omega))
      · rcases hO (md K W tb u x) (by omega) with ⟨_, q⟩ | ⟨n0, hn0, hm0, e0⟩
        · exact fun a ha he => absurd he (q a ha)
        · rw [e0] at h2
          have h3 : dg K W u p n0 < K := Nat.mod_lt _ (by omega)
          have h4 : dg K W u p n0 = dg K W u p x := (nI_nat (by omega) (by omega)).mp h2
          exact fun a ha he => (hI a n0 ha hn0 (he.trans hm0.symm)).trans h4
      · rcases hO (md K W tb u x) (by omega) with ⟨q, _⟩ | ⟨n0, hn0, hm0, e0⟩
        · rw [q] at h1; exact absurd (by decide) h1
        · refine hp0 τ hX (fun ht => h2 ?_)
          rw [e0, ht n0 x (by omega) (by omega) hm0]
          rfl
  have L36 : ∀ x, x ≤ 1024 → ∀ τ, sX (fun k _ => k = 20) σ τ → (∀ m, m < x → τ.1 20 m = -1) → G_M_tells_36 l v (n + 2) post τ (nI u) (nI (K ^ (u + W - 1))) (nI (K ^ (u + W - 2 - p))) (nI x) := by
    refine dn ?_ ?_
    · intro τ hX h1
      refine T_M_tells_36 (br_t (show (1024 : Int32) ≤ nI 1024 by decide) ?_)
      exact L61 0 (Nat.zero_le _) τ hX (fun a b h => absurd h (Nat.not_lt_zero a)) (fun m hm => Or.inl ⟨h1 m hm, fun a h => absurd h (Nat.not_lt_zero a)⟩)
    · intro x hx ih τ hX h1
      refine T_M_tells_36 (br_f (nI_ge (b := 1024) hx (by omega)) ⟨vp_in_nI (by omega) (by decide), ?_⟩)
      rw [nI_clamp (by omega), nI_1]
      refine ih _ (hX.I rfl) (fun m hm => ?_)
      by_cases e : m = x
      · rw [e, pI_eq]
      · rw [pI_j e]; exact h1 m (by omega)
  refine E_M_tells (T_M_tells_0 ?_)
  rw [hC.1, hC.2.1, elen]
  refine k_powerOf (by omega) ?_
  rw [hC.1, elen2]
  exact k_powerOf (by omega) (L36 0 (Nat.zero_le _) σ sX.rf (fun m h => absurd h (Nat.not_lt_zero m)))
def iM (σ : gs_S) (K W : Nat) (tb : Nat → Nat) : Prop := ∃ u p, iS K W tb u p ∧ σ.1 0 32 = nI u ∧ σ.1 0 33 = nI p ∧ (1 ≤ u → undn (σ.1 20) K W tb u p (K ^ (u + W - 1)))
def mIv (σ : gs_S) (K W : Nat) (tb : Nat → Nat) : Prop := σ.1 0 31 = 0 ∨ (σ.1 0 31 = 1 ∧ iM σ K W tb)
def fMi (σ σ' : gs_S) : Prop := sX (fun k j => k = 20 ∨ (k = 0 ∧ 31 ≤ j ∧ j ≤ 33)) σ σ'
theorem k_findInverse {post : gs_S → Prop} (hR : okR K W tb) (hC : mR σ K W tb) (hv : mIv σ K W tb) (hp : ∀ σ', fMi σ σ' → σ'.1 0 31 = 1 → iM σ' K W tb → post σ') : gM l v lyM 33 me_M_findInverse (n + 4) [.ref (v.2.2 0)] σ (qV v lyM 33 post) := by
  have hW := hR.2.2.2.1
  have hW1 := hR.2.2.1
  refine E_M_findInverse (T_M_findInverse_0 ?_)
  rcases hv with h0 | ⟨h1, h2⟩
  · refine br_t h0 ?_
    have L25 : ∀ g u, u + g = 6 → 1 ≤ u → ∀ τ, fMi σ τ → τ.1 0 31 = 1 → τ.1 0 32 = 0 → τ.1 0 33 = 0 → (∀ u' p', 1 ≤ u' → u' < u → p' < u' + W - 1 → ¬ told K W tb u' p') → G_M_findInverse_25 l v (n + 3) post τ (nI u) := by
      intro g
      induction g with
      | zero =>
        intro u hu hu1 τ hX e1 e2 e3 hI
        have e : u = 6 := by omega
        subst e
        exact T_M_findInverse_25 (br_t (by decide) (hp τ hX e1 ⟨0, 0, Or.inl ⟨rfl, rfl, fun u' p' a1 a2 a3 => hI u' p' a1 (by omega) a3⟩, e2, e3, fun h => absurd h (by omega)⟩))
      | succ g ih =>
        intro u hu hu1 τ hX e1 e2 e3 hI
        have h5u : ¬ (5 : Int32) < nI u := by
          rw [Int32.not_lt]
          exact nI_le (a := u) (b := 5) (by omega) (by omega)
        refine T_M_findInverse_25 (br_f h5u ?_)
        have L32 : ∀ p, p ≤ u + W - 1 → ∀ τ, fMi σ τ → τ.1 0 31 = 1 → τ.1 0 32 = 0 → τ.1 0 33 = 0 → (∀ p', p' < p → ¬ told K W tb u p') → G_M_findInverse_32 l v (n + 3) post τ (nI u) (nI p) := by
          have elen : ∀ τ, fMi σ τ → nI u + τ.1 0 3 - 2 = nI (u + W - 2) := fun τ hX => by
            rw [(hX 0 3 (by omega)).1, hC.2.1, nI_add]
            exact pk_sub (a := u + W) (b := 2) (by omega)
          refine dn ?_ ?_
          · intro τ hX e1 e2 e3 hI2
            refine T_M_findInverse_32 (br_t (by rw [elen τ hX]; exact nI_lt (by omega) (by omega)) ?_)
            rw [nI_1]
            refine ih (u + 1) (by omega) (by omega) τ hX e1 e2 e3 (fun u' p' a1 a2 a3 => ?_)
            by_cases e : u' = u
            · subst e; exact hI2 p' a3
            · exact hI u' p' a1 (by omega) a3
          · intro p hp' ih2 τ hX e1 e2 e3 hI2
            have hCτ : mR τ K W tb := hC.kept hX (fun _ _ => by omega) (fun _ => by omega)
            refine T_M_findInverse_32 (br_f (by rw [elen τ hX, Int32.not_lt]; exact nI_le (by omega) (by omega)) (k_tells hR hCτ hu1 (by omega) hp' (fun τ1 hX1 hn => br_t rfl ?_) (fun τ1 hX1 ht ho => br_f (by decide) ?_)))
            · rw [nI_1]
              refine ih2 τ1 (hX.tr (hX1.mono (fun k j h => Or.inl h))) ((hX1 0 31 (by omega)).1.trans e1) ((hX1 0 32 (by omega)).1.trans e2) ((hX1 0 33 (by omega)).1.trans e3) (fun p' hp2 => ?_)
              by_cases e : p' = p
              · subst e; exact hn
              · exact hI2 p' (by omega)
            · refine hp _ (((hX.tr (hX1.mono (fun k j h => Or.inl h))).I (by omega)).I (by omega)) ?_ ⟨u, p, Or.inr ⟨hu1, by omega, hp', ht, hI2, hI⟩, by rw [pI_j (by decide), pI_eq], pI_eq, fun _ => by rw [pI_k (by decide), pI_k (by decide)]; exact ho⟩
              rw [pI_j (by decide), pI_j (by decide), (hX1 0 31 (by omega)).1]; exact e1
        exact L32 0 (Nat.zero_le _) τ hX e1 e2 e3 (fun p' h => absurd h (Nat.not_lt_zero p'))
    refine L25 5 1 rfl (Nat.le_refl _) _ (((sX.rf.I (by omega)).I (by omega)).I (by omega)) ?_ ?_ ?_ (fun u' p' a1 a2 _ => absurd a1 (by omega))
    · rw [pI_j (by decide), pI_j (by decide), pI_eq]
    · rw [pI_j (by decide), pI_eq]
    · rw [pI_eq]
  · exact br_f (by rw [h1]; decide) (hp σ sX.rf h1 h2)
end K23
section K24
variable {l : Launch} {v1 v2 : gs_V} {n : Nat} {σ1 σ2 : gs_S} {K W : Nat} {tb : Nat → Nat} {Post : gs_S → gs_S → Prop} {x : Int32}
theorem o_inverse (hp : ¬ σ1.1 4 5 = 0) (hR : okR K W tb) (hC : cR σ1 K W tb) (hF : cF σ1 K W tb) (hM : mR σ2 K W tb) (hc : cSj σ1 K W tb) (hi : cIj σ1 K W tb) (hv : cIv σ1 K W tb) (hm : mIv σ2 K W tb) (hP0 : Post σ1 σ2) (hP : ∀ σ1' σ2', fIv σ1 σ1' → cSj σ1' K W tb → cIj σ1' K W tb → cIv σ1' K W tb → fMi σ2 σ2' → mIv σ2' K W tb → Post σ1' σ2') : lOi l v1 v2 (n + 8) me_A_inverse me_M_inverse [.int x] σ1 σ2 Post := by
  refine E_A_inverse (T_A_inverse_0 (br_f hp ?_))
  have bad : (x < 0 ∨ ¬ x ≤ 1) → gM l v2 lyM 33 me_M_inverse (n + 8) [.ref (v2.2.2 0), .int x] σ2 (qI v2 lyM 33 (fun r' σ2' => (-1 : Int32) = r' ∧ Post σ1 σ2')) := by
    intro h
    refine E_M_inverse (T_M_inverse_0 (br_f (hM.k0 hR) ?_))
    by_cases q : x < 0
    · exact br_t q (T_M_inverse_16 ⟨rfl, hP0⟩)
    · exact br_f q (br_f (h.elim (fun z => absurd z q) id) (T_M_inverse_16 ⟨rfl, hP0⟩))
  refine ⟨fun q => T_A_inverse_19 (bad (Or.inl q)), fun q => ⟨fun q2 => ?_, fun q2 => T_A_inverse_19 (bad (Or.inr q2))⟩⟩
  have second : ∀ r σ1', fIv σ1 σ1' → cSj σ1' K W tb → cIj σ1' K W tb → σ1'.1 17 3 = 1 → iC σ1' K W tb → (∀ u p, iS K W tb u p → (¬ x = 0 → r = nI p) ∧ (x = 0 → r = nI u)) → gM l v2 lyM 33 me_M_inverse (n + 8) [.ref (v2.2.2 0), .int x] σ2 (qI v2 lyM 33 (fun r' σ2' => r = r' ∧ Post σ1' σ2')) := by
    intro r σ1' hX h1 h2 h3 h4 hr
    refine E_M_inverse (T_M_inverse_0 (br_f (hM.k0 hR) (br_f q (br_t q2 (k_findInverse hR hM hm (fun σ2' hX2 g1 g2 => ?_))))))
    have hPP := hP σ1' σ2' hX h1 h2 (Or.inr ⟨h3, h4⟩) hX2 (Or.inr ⟨g1, g2⟩)
    obtain ⟨u, p, a1, a2, a3, _⟩ := g2
    have z := hr u p a1
    exact ⟨fun e => T_M_inverse_37 ⟨(z.1 e).trans a3.symm, hPP⟩, fun e => T_M_inverse_37 ⟨(z.2 e).trans a2.symm, hPP⟩⟩
  refine ⟨fun e => E_V_place (T_V_place_0 (k_V_find hR hC hF hc hi hv (fun σ1' hX h1 h2 h3 h4 => T_A_inverse_42 (second _ σ1' hX h1 h2 h3 h4 (fun u p hs => ⟨fun _ => ?_, fun z => absurd z e⟩))))), fun e => E_V_width (T_V_width_0 (k_V_find hR hC hF hc hi hv (fun σ1' hX h1 h2 h3 h4 => T_A_inverse_42 (second _ σ1' hX h1 h2 h3 h4 (fun u p hs => ⟨fun z => absurd e z, fun _ => ?_⟩)))))⟩
  · obtain ⟨u', p', a1, a2, a3, _⟩ := h4
    rw [a3, (iS_uniq a1 hs).2]
  · obtain ⟨u', p', a1, a2, a3, _⟩ := h4
    rw [a2, (iS_uniq a1 hs).1]
theorem o_undo (hp : ¬ σ1.1 4 5 = 0) (hR : okR K W tb) (hC : cR σ1 K W tb) (hF : cF σ1 K W tb) (hM : mR σ2 K W tb) (hc : cSj σ1 K W tb) (hi : cIj σ1 K W tb) (hv : cIv σ1 K W tb) (hm : mIv σ2 K W tb) (hP : ∀ σ1' σ2', fIv σ1 σ1' → cSj σ1' K W tb → cIj σ1' K W tb → cIv σ1' K W tb → fMi σ2 σ2' → mIv σ2' K W tb → Post σ1' σ2') : lOi l v1 v2 (n + 8) me_A_undo me_M_undo [.int x] σ1 σ2 Post := by
  have hK := hR.2.1
  have hK2 := hR.1
  have hW := hR.2.2.2.1
  have hW1 := hR.2.2.1
  refine E_A_undo (T_A_undo_0 (br_f hp (E_V_cellOf (T_V_cellOf_0 (k_V_find hR hC hF hc hi hv (fun σ1' hX h1 h2 h3 h4 => ?_))))))
  have hC' : cR σ1' K W tb := hC.kept hX (fun _ => by omega) (fun _ => by omega)
  have second : ∀ r : Int32, (∀ (σ2' : gs_S) u p, iS K W tb u p → (1 ≤ u → undn (σ2'.1 20) K W tb u p (K ^ (u + W - 1))) → (u = 0 → r = -1) ∧ (1 ≤ u → (x < 0 → r = -1) ∧ (¬ x < 0 → (nI (K ^ u) ≤ x → r = -1) ∧ (¬ nI (K ^ u) ≤ x → vp_in x 1024 ∧ r = σ2'.1 20 x.toNatClampNeg)))) → gM l v2 lyM 33 me_M_undo (n + 8) [.ref (v2.2.2 0), .int x] σ2 (qI v2 lyM 33 (fun r' σ2' => r = r' ∧ Post σ1' σ2')) := by
    intro r hr
    refine E_M_undo (T_M_undo_0 (br_t' (hM.k0 hR) (k_findInverse hR hM hm (fun σ2' hX2 g1 g2 => ?_))))
    have hPP := hP σ1' σ2' hX h1 h2 (Or.inr ⟨h3, h4⟩) hX2 (Or.inr ⟨g1, g2⟩)
    have hM' : mR σ2' K W tb := hM.kept hX2 (fun _ _ => by omega) (fun _ => by omega)
    obtain ⟨u, p, a1, a2, a3, a4⟩ := g2
    have hu5 : u ≤ 5 := by
      rcases a1 with a1 | a1
      · omega
      · exact a1.2.1
    obtain ⟨z1, z2⟩ := hr σ2' u p a1 a4
    rw [a2]
    rcases Nat.eq_zero_or_pos u with e | e
    · subst e
      exact br_t (by decide) (T_M_undo_48 (T_M_undo_49 ⟨z1 rfl, hPP⟩))
    · have z3 := z2 e
      refine br_f (nI_ge (a := 0) (b := u) e (by omega)) ⟨fun q => T_M_undo_48 (T_M_undo_49 ⟨z3.1 q, hPP⟩), fun q => ?_⟩
      rw [hM'.1]
      refine k_powerOf (by omega) ⟨fun q2 => T_M_undo_48 (T_M_undo_49 ⟨(z3.2 q).1 q2, hPP⟩), fun q2 => ⟨((z3.2 q).2 q2).1, T_M_undo_49 ⟨((z3.2 q).2 q2).2, hPP⟩⟩⟩
  obtain ⟨u, p, a1, a2, a3, a4⟩ := h4
  have hu5 : u ≤ 5 := by
    rcases a1 with a1 | a1
    · omega
    · exact a1.2.1
  rw [a2]
  rcases Nat.eq_zero_or_pos u with e | e
  · subst e
    refine br_t rfl (T_V_cellOf_42 (T_A_undo_22 (second _ (fun σ2' u' p' b1 b2 => ?_))))
    have e2 := (iS_uniq a1 b1).1
    exact ⟨fun _ => rfl, fun q => by omega⟩
  · refine br_f (nI_ne0 e (by omega)) ⟨fun q => T_V_cellOf_42 (T_A_undo_22 (second _ (fun σ2' u' p' b1 b2 => ?_))), fun q => ?_⟩
    · have e2 := (iS_uniq a1 b1).1
      exact ⟨fun _ => rfl, fun _ => ⟨fun _ => rfl, fun q2 => absurd q q2⟩⟩
    · have hKu := pw5 (e := u) hK hu5
      rw [hC'.1]
      refine k_power (by omega) ⟨fun q2 => T_V_cellOf_42 (T_A_undo_22 (second _ (fun σ2' u' p' b1 b2 => ?_))), fun q2 => ?_⟩
      · have e2 := (iS_uniq a1 b1).1
        subst e2
        exact ⟨fun _ => rfl, fun _ => ⟨fun _ => rfl, fun _ => ⟨fun _ => rfl, fun q3 => absurd q2 q3⟩⟩⟩
      · obtain ⟨i, hi2, rfl⟩ := nI_of_range q q2 (by omega)
        have hpl : p < u + W - 1 := by
          rcases a1 with a1 | a1
          · omega
          · exact a1.2.2.1
        have htold : told K W tb u p := by
          rcases a1 with a1 | a1
          · omega
          · exact a1.2.2.2.1
        have hrows := pw8 (e := u + W - 1) hK (by omega)
        have hun := pw8 (e := u + W - 2 - p) hK (by omega)
        have hunp : 0 < K ^ (u + W - 2 - p) := Nat.pow_pos (by omega)
        rw [nI_clamp (by omega)]
        have fin : ∀ r, (∀ f, undn f K W tb u p (K ^ (u + W - 1)) → r = f i) → gM l v2 lyM 33 me_M_undo (n + 8) [.ref (v2.2.2 0), .int (nI i)] σ2 (qI v2 lyM 33 (fun r' σ2' => r = r' ∧ Post σ1' σ2')) := fun r hr => second r (fun σ2' u' p' b1 b2 => by
          obtain ⟨e2, e3⟩ := iS_uniq a1 b1
          subst e2 e3
          refine ⟨fun z => by omega, fun _ => ⟨fun z => absurd z q, fun _ => ⟨fun z => absurd z q2, fun _ => ⟨vp_in_nI (by omega) (by decide), ?_⟩⟩⟩⟩
          rw [nI_clamp (by omega)]
          exact hr _ (b2 e))
        refine ⟨vp_in_nI (by omega) (by decide), fun h0 => ⟨vp_in_nI (by omega) (by decide), ?_⟩, fun h0 => T_V_cellOf_42 (T_A_undo_22 (fin _ (fun f hf => ?_)))⟩
        · rcases a4 e i (by omega) with ⟨z, _⟩ | ⟨m, hm1, hm2, hm3⟩
          · rw [z] at h0; exact absurd h0 (by decide)
          · have ee : nI u + nI W - 2 - nI p = nI (u + W - 2 - p) := by
              rw [nI_add, show nI (u + W) - 2 = nI (u + W - 2) from pk_sub (a := u + W) (b := 2) (by omega)]
              exact pk_sub (by omega)
            rw [a2, a3, hC'.2.1, ee, hC'.1]
            refine k_power (by omega) ?_
            have hd : m / K ^ (u + W - 2 - p) < 2 ^ 31 := Nat.lt_of_le_of_lt (Nat.div_le_self _ _) (by omega)
            rw [hm3, hC'.1, pk_div (by omega) hunp (by omega), jR_n hd (by omega) (by omega)]
            refine ⟨nI_ne0 hunp (by omega), nI_ne0 (by omega) (by omega), T_A_undo_22 (fin _ (fun f hf => ?_))⟩
            rcases hf i (by omega) with ⟨_, z⟩ | ⟨m', g1, g2, g3⟩
            · exact absurd hm2 (z m hm1)
            · rw [g3, ← htold m m' hm1 g1 (hm2.trans g2.symm)]
              rfl
        · rcases a4 e i (by omega) with ⟨_, z⟩ | ⟨m, hm1, hm2, hm3⟩
          · rcases hf i (by omega) with ⟨z2, _⟩ | ⟨m', g1, g2, g3⟩
            · exact z2.symm
            · exact absurd g2 (z m' g1)
          · rw [hm3] at h0
            exact absurd (nI_le (a := 0) (b := m) (Nat.zero_le _) (by omega)) h0
end K24
