/-! Inverse of the class. -/
def bi (x : Int32) (i : Nat) : Bool := x.toBitVec.getLsbD i
theorem bi_or (x y : Int32) (i : Nat) : bi (x ||| y) i = (bi x i || bi y i) := by simp [bi]
theorem bi_and (x y : Int32) (i : Nat) : bi (x &&& y) i = (bi x i && bi y i) := by simp [bi]
theorem bi_0 (i : Nat) : bi 0 i = false := by simp [bi]
theorem bi_ext {x y : Int32} (h : ∀ i, i < 32 → bi x i = bi y i) : x = y := by
  apply Int32.toBitVec_inj.mp
  apply BitVec.eq_of_getLsbD_eq
  intro i hi
  exact h i hi
theorem bi_eq0 {x : Int32} : x = 0 ↔ ∀ i, i < 32 → bi x i = false := ⟨fun h i _ => by rw [h, bi_0], fun h => bi_ext (fun i hi => by rw [h i hi, bi_0])⟩
theorem bi_one : ∀ k, k < 9 → ∀ i, i < 32 → bi (jSI 1 (nI k)) i = decide (i = k) := by decide +kernel
theorem bi_all : ∀ k, k < 9 → ∀ i, i < 32 → bi (jSI 1 (nI k) - 1) i = decide (i < k) := by decide +kernel
theorem bi_1 : ∀ i, i < 32 → bi 1 i = decide (i = 0) := by decide +kernel
theorem jAI_bv (x : Int32) {k : Nat} (hk : k < 9) : (jAI x (nI k)).toBitVec = x.toBitVec.sshiftRight k := by
  have h1 : ∀ k, k < 9 → (nI k &&& 31).toBitVec.smod 32 = BitVec.ofNat 32 k := by decide +kernel
  unfold jAI
  rw [Int32.toBitVec_shiftRight]
  show x.toBitVec.sshiftRight' ((nI k &&& 31).toBitVec.smod 32) = _
  rw [h1 k hk]
  show x.toBitVec.sshiftRight (BitVec.ofNat 32 k).toNat = _
  rw [BitVec.toNat_ofNat, Nat.mod_eq_of_lt (by omega)]
theorem jAI_bit (x : Int32) {k : Nat} (hk : k < 9) : jAI x (nI k) &&& 1 = 0 ↔ bi x k = false := by
  have e : bi (jAI x (nI k)) 0 = bi x k := by
    show (jAI x (nI k)).toBitVec.getLsbD 0 = _
    rw [jAI_bv x hk, BitVec.getLsbD_sshiftRight]
    simp [bi, show k < 32 by omega]
  rw [bi_eq0]
  constructor
  · intro h
    have := h 0 (by decide)
    rw [bi_and, bi_1 0 (by decide), e] at this
    simpa using this
  · intro h i hi
    rw [bi_and, bi_1 i hi]
    by_cases q : i = 0
    · subst q; rw [e, h]; rfl
    · rw [decide_eq_false q, Bool.and_false]
section K22
variable {l : Launch} {v : gs_V} {n : Nat} {σ : gs_S} {K W : Nat} {tb : Nat → Nat}
theorem pw8 {K e : Nat} (hK : K ≤ 4) (he : e ≤ 8) : K ^ e ≤ 65536 := by
  have h1 : K ^ e ≤ 4 ^ e := Nat.pow_le_pow_left hK e
  have h2 : 4 ^ e ≤ 4 ^ 8 := Nat.pow_le_pow_right (by decide) he
  have h3 : 4 ^ 8 = 65536 := by decide
  omega
theorem pw5 {K e : Nat} (hK : K ≤ 4) (he : e ≤ 5) : K ^ e ≤ 1024 := by
  have h1 : K ^ e ≤ 4 ^ e := Nat.pow_le_pow_left hK e
  have h2 : 4 ^ e ≤ 4 ^ 5 := Nat.pow_le_pow_right (by decide) he
  have h3 : 4 ^ 5 = 1024 := by decide
  omega
theorem k_V_madeOf {post : Int32 → gs_S → Prop} {r u : Nat} (hR : okR K W tb) (hC : cR σ K W tb) (hr : r < 2 ^ 30) (hu : u ≤ 5) (hp : post (nI (md K W tb u r)) σ) : gM l v lyC 42 me_V_madeOf (n + 1) [.ref (v.2.2 17), .int (nI r), .int (nI u)] σ (qI v lyC 42 post) := by
  have hK := hR.2.1
  have hK2 := hR.1
  have hKW := pw_le hR.2.1 hR.2.2.2.1
  have hWp := pw_pos (W := W) hR.1
  have L := dn0 (N := u) (P := fun i => G_V_madeOf_11 l v n post σ (nI u) (nI (md K W tb i r)) (nI (K ^ i)) (nI (r / K ^ i)) (nI i)) ?_ ?_
  · have q : G_V_madeOf_11 l v n post σ (nI u) (nI (md K W tb 0 r)) (nI (K ^ 0)) (nI (r / K ^ 0)) (nI 0) := L
    rw [Nat.pow_zero, Nat.div_one] at q
    exact E_V_madeOf (T_V_madeOf_0 q)
  · exact T_V_madeOf_11 (br_t (nI_le (Nat.le_refl u) (by omega)) hp)
  · intro i hi ih
    have hd : r / K ^ i < 2 ^ 31 := Nat.lt_of_le_of_lt (Nat.div_le_self _ _) (by omega)
    have hm : r / K ^ i % K ^ W < K ^ W := Nat.mod_lt _ hWp
    refine T_V_madeOf_11 (br_f (nI_ge hi (by omega)) ?_)
    rw [hC.2.2.1, hC.1, jR_n hd hWp (by omega), nI_clamp (n := r / K ^ i % K ^ W) (by omega), hC.2.2.2.2 _ hm, pk_mul, nI_add, pk_mul, pk_div hd (by omega) (by omega), nI_1, Nat.div_div_eq_div_mul, ← Nat.pow_succ]
    exact ⟨nI_ne0 hWp (by omega), vp_in_nI (by omega) (by decide), nI_ne0 (by omega) (by omega), ih⟩
theorem k_samePlaces {post : Int32 → gs_S → Prop} {a b len : Nat} (hR : okR K W tb) (hC : cR σ K W tb) (ha : a < 2 ^ 30) (hb : b < 2 ^ 30) (hl : len ≤ 8) (hp : ∀ r, (∀ i, i < 32 → (bi r i = true ↔ i < len ∧ a / K ^ (len - 1 - i) % K = b / K ^ (len - 1 - i) % K)) → post r σ) : gM l v lyC 42 me_V_samePlaces (n + 1) [.ref (v.2.2 17), .int (nI a), .int (nI b), .int (nI len)] σ (qI v lyC 42 post) := by
  have hK := hR.2.1
  have hK2 := hR.1
  have L : ∀ r, r ≤ len → ∀ acc : Int32, (∀ i, i < 32 → (bi acc i = true ↔ r ≤ i ∧ i < len ∧ a / K ^ (len - 1 - i) % K = b / K ^ (len - 1 - i) % K)) → G_V_samePlaces_14 l v n post σ acc (nI (a / K ^ (len - r))) (nI (b / K ^ (len - r))) (nI r - 1) := by
    intro r
    induction r with
    | zero =>
      intro _ acc hI
      exact T_V_samePlaces_14 (br_t (by decide) (hp acc (fun i hi => by rw [hI i hi]; exact ⟨fun h => h.2, fun h => ⟨Nat.zero_le _, h⟩⟩)))
    | succ r ih =>
      intro hr acc hI
      have hda : a / K ^ (len - (r + 1)) < 2 ^ 31 := Nat.lt_of_le_of_lt (Nat.div_le_self _ _) (by omega)
      have hdb : b / K ^ (len - (r + 1)) < 2 ^ 31 := Nat.lt_of_le_of_lt (Nat.div_le_self _ _) (by omega)
      have hma : a / K ^ (len - (r + 1)) % K < K := Nat.mod_lt _ (by omega)
      have hmb : b / K ^ (len - (r + 1)) % K < K := Nat.mod_lt _ (by omega)
      have ed : len - r = len - (r + 1) + 1 := by omega
      rw [nI_pred r]
      refine T_V_samePlaces_14 (br_f (nI_pos (by omega)) ?_)
      rw [hC.1, jR_n hda (by omega) (by omega), jR_n hdb (by omega) (by omega), nI_nat (by omega) (by omega)]
      have nxt : ∀ acc : Int32, (∀ i, i < 32 → (bi acc i = true ↔ r ≤ i ∧ i < len ∧ a / K ^ (len - 1 - i) % K = b / K ^ (len - 1 - i) % K)) → G_V_samePlaces_51 l v n post σ acc (nI (a / K ^ (len - (r + 1)))) (nI (b / K ^ (len - (r + 1)))) (nI r) := fun acc hI => by
        refine T_V_samePlaces_51 ?_
        rw [hC.1, pk_div hda (by omega) (by omega), pk_div hdb (by omega) (by omega), Nat.div_div_eq_div_mul, Nat.div_div_eq_div_mul, ← Nat.pow_succ, show nI r + (-1) = nI r - 1 from (Int32.sub_eq_add_neg _ _).symm]
        have q := ih (by omega) acc hI
        rw [ed] at q
        exact ⟨nI_ne0 (by omega) (by omega), nI_ne0 (by omega) (by omega), q⟩
      refine ⟨nI_ne0 (by omega) (by omega), nI_ne0 (by omega) (by omega), fun h => nxt acc (fun i hi => ?_), fun h => nxt _ (fun i hi => ?_)⟩
      · rw [hI i hi]
        constructor
        · rintro ⟨h1, h2⟩; exact ⟨by omega, h2⟩
        · rintro ⟨h1, h2, h3⟩
          refine ⟨?_, h2, h3⟩
          rcases Nat.lt_or_ge r i with q | q
          · exact q
          · exfalso
            apply h
            rw [show len - (r + 1) = len - 1 - i by omega]; exact h3
      · rw [bi_or, Bool.or_eq_true, hI i hi, bi_one r (by omega) i hi, decide_eq_true_eq]
        constructor
        · rintro (⟨h1, h2⟩ | h1)
          · exact ⟨by omega, h2⟩
          · subst h1
            refine ⟨Nat.le_refl _, by omega, ?_⟩
            rw [show len - 1 - i = len - (i + 1) by omega]; exact h
        · rintro ⟨h1, h2, h3⟩
          by_cases e : i = r
          · exact Or.inr e
          · exact Or.inl ⟨by omega, h2, h3⟩
  have q := L len (Nat.le_refl _) 0 (fun i hi => by rw [bi_0]; exact ⟨fun h => (by cases h), fun h => absurd h.1 (by omega)⟩)
  rw [Nat.sub_self, Nat.pow_zero, Nat.div_one, Nat.div_one] at q
  exact E_V_samePlaces (T_V_samePlaces_0 q)
/-- for each row of made cells a row that they are made of -/
def orig (f : Nat → Int32) (K W : Nat) (tb : Nat → Nat) (u x : Nat) : Prop := ∀ m, m < 1024 → (f m = -1 ∧ ∀ n, n < x → md K W tb u n ≠ m) ∨ ∃ n, n < x ∧ md K W tb u n = m ∧ f m = nI n
theorem k_placesTold {post : Int32 → gs_S → Prop} {u : Nat} (hR : okR K W tb) (hC : cR σ K W tb) (hu1 : 1 ≤ u) (hu : u ≤ 5) (hp : ∀ r σ', sX (fun k _ => k = 18) σ σ' → (∀ i, i < 32 → (bi r i = true ↔ i < u + W - 1 ∧ told K W tb u i)) → ((∃ i, i < u + W - 1 ∧ told K W tb u i) → orig (σ'.1 18) K W tb u (K ^ (u + W - 1))) → post r σ') : gM l v lyC 42 me_V_placesTold (n + 2) [.ref (v.2.2 17), .int (nI u)] σ (qI v lyC 42 post) := by
  have hK := hR.2.1
  have hK2 := hR.1
  have hW := hR.2.2.2.1
  have hW1 := hR.2.2.1
  have hrows := pw8 (e := u + W - 1) hK (by omega)
  have hKu := pw5 (e := u) hK hu
  have elen : nI u + nI W - 1 = nI (u + W - 1) := by
    rw [nI_add]
    exact pk_sub (a := u + W) (b := 1) (by omega)
  have L : ∀ x, x ≤ K ^ (u + W - 1) → ∀ τ (acc : Int32), sX (fun k _ => k = 18) σ τ → (∀ i, i < 32 → (bi acc i = true ↔ i < u + W - 1 ∧ ∀ a b, a < x → b < x → md K W tb u a = md K W tb u b → dg K W u i a = dg K W u i b)) → orig (τ.1 18) K W tb u x → G_V_placesTold_42 l v (n + 1) post τ (nI u) (nI (u + W - 1)) (nI (K ^ (u + W - 1))) acc (nI x) := by
    refine dn ?_ ?_
    · intro τ acc hX hI hO
      exact T_V_placesTold_42 (br_t (nI_le (Nat.le_refl _) (by omega)) (T_V_placesTold_110 (hp acc τ hX hI (fun _ => hO))))
    · intro x hx ih τ acc hX hI hO
      have hCτ : cR τ K W tb := hC.kept hX (fun _ => by omega) (fun _ => by omega)
      have hml := md_lt hR x u
      refine T_V_placesTold_42 (br_f (nI_ge hx (by omega)) ⟨fun h0 => T_V_placesTold_110 ?_, fun h0 => k_V_madeOf hR hCτ (by omega) hu ?_⟩)
      · have hnone : ∀ i, i < u + W - 1 → ¬ told K W tb u i := fun i hi ht => by
          have q : bi acc i = true := (hI i (by omega)).mpr ⟨hi, fun a b ha hb he => ht a b (by omega) (by omega) he⟩
          rw [h0, bi_0] at q
          cases q
        refine hp acc τ hX (fun i hi => ?_) (fun ⟨i, h1, h2⟩ => absurd h2 (hnone i h1))
        rw [h0, bi_0]
        exact ⟨fun h => (by cases h), fun h => absurd h.2 (hnone i h.1)⟩
      · rw [nI_clamp (by omega)]
        refine ⟨vp_in_nI (by omega) (by decide), fun h1 => ⟨vp_in_nI (by omega) (by decide), ?_⟩, fun h1 => ⟨vp_in_nI (by omega) (by decide), T_V_placesTold_104 ?_⟩⟩
        · rcases hO (md K W tb u x) (by omega) with ⟨q, _⟩ | ⟨n0, hn0, hm0, e0⟩
          · exact absurd q h1
          · rw [e0]
            refine k_samePlaces hR hCτ (by omega) (by omega) (by omega) (fun r hr => T_V_placesTold_104 ?_)
            rw [nI_1]
            have hdg : ∀ i, i < u + W - 1 → (x / K ^ (u + W - 1 - 1 - i) % K = n0 / K ^ (u + W - 1 - 1 - i) % K ↔ dg K W u i x = dg K W u i n0) := fun i hi => by
              unfold dg
              rw [show u + W - 1 - 1 - i = u + W - 2 - i by omega]
            refine ih τ _ hX (fun i hi => ?_) (fun m hm => ?_)
            · rw [bi_and, Bool.and_eq_true, hI i hi, hr i hi]
              constructor
              · rintro ⟨⟨g1, g2⟩, _, g3⟩
                have g3 := (hdg i g1).mp g3
                refine ⟨g1, fun a b ha hb he => ?_⟩
                by_cases ea : a = x
                · by_cases eb : b = x
                  · rw [ea, eb]
                  · rw [ea, g3]; rw [ea] at he; exact g2 n0 b hn0 (by omega) (hm0.trans he)
                · by_cases eb : b = x
                  · rw [eb, g3]; rw [eb] at he; exact g2 a n0 (by omega) hn0 (he.trans hm0.symm)
                  · exact g2 a b (by omega) (by omega) he
              · rintro ⟨g1, g2⟩
                exact ⟨⟨g1, fun a b ha hb he => g2 a b (by omega) (by omega) he⟩, g1, (hdg i g1).mpr (g2 x n0 (by omega) (by omega) hm0.symm)⟩
            · rcases hO m hm with ⟨q1, q2⟩ | ⟨n1, q1, q2, q3⟩
              · refine Or.inl ⟨q1, fun a ha => ?_⟩
                by_cases ea : a = x
                · rw [ea]; intro e; rw [e] at h1; exact h1 q1
                · exact q2 a (by omega)
              · exact Or.inr ⟨n1, by omega, q2, q3⟩
        · rw [nI_1]
          have hfresh : ∀ a, a < x → md K W tb u a ≠ md K W tb u x := by
            rcases hO (md K W tb u x) (by omega) with ⟨_, q⟩ | ⟨n0, hn0, hm0, e0⟩
            · exact q
            · rw [h1] at e0
              exact absurd (show nI n0 < 0 by rw [← e0]; decide) (nI_pos (by omega))
          refine ih _ acc (hX.I rfl) (fun i hi => ?_) (fun m hm => ?_)
          · rw [hI i hi]
            constructor
            · rintro ⟨g1, g2⟩
              refine ⟨g1, fun a b ha hb he => ?_⟩
              by_cases ea : a = x
              · by_cases eb : b = x
                · rw [ea, eb]
                · rw [ea] at he; exact absurd he.symm (hfresh b (by omega))
              · by_cases eb : b = x
                · rw [eb] at he; exact absurd he (hfresh a (by omega))
                · exact g2 a b (by omega) (by omega) he
            · rintro ⟨g1, g2⟩
              exact ⟨g1, fun a b ha hb he => g2 a b (by omega) (by omega) he⟩
          · by_cases e : m = md K W tb u x
            · rw [e, pI_eq]; exact Or.inr ⟨x, by omega, rfl, rfl⟩
            · rw [pI_j e]
              rcases hO m hm with ⟨q1, q2⟩ | ⟨n1, q1, q2, q3⟩
              · refine Or.inl ⟨q1, fun a ha => ?_⟩
                by_cases ea : a = x
                · rw [ea]; exact fun z => e z.symm
                · exact q2 a (by omega)
              · exact Or.inr ⟨n1, by omega, q2, q3⟩
  refine E_V_placesTold (T_V_placesTold_0 (k_fillI ⟨by decide, rfl⟩ (by decide) ?_))
  have hX0 : sX (fun k _ => k = 18) σ (gs_pA σ 18 (fl32 (σ.1 18) 1024 (-1))) := sX.rf.A (fun _ => rfl)
  have hC0 : cR (gs_pA σ 18 (fl32 (σ.1 18) 1024 (-1))) K W tb := hC.kept hX0 (fun _ => by omega) (fun _ => by omega)
  rw [hC0.1, hC0.2.1, elen]
  refine k_power (by omega) (L 0 (Nat.zero_le _) _ _ hX0 (fun i hi => ?_) (fun m hm => Or.inl ⟨?_, fun a h => absurd h (Nat.not_lt_zero a)⟩))
  · rw [bi_all _ (by omega) i hi, decide_eq_true_eq]
    exact ⟨fun h => ⟨h, fun a _ h => absurd h (Nat.not_lt_zero a)⟩, fun h => h.1⟩
  · rw [pA_row]
    show (if m < 1024 then (-1 : Int32) else _) = -1
    rw [if_pos hm]
/-- the inverse that counts: its width (0: none) and its place -/
def iS (K W : Nat) (tb : Nat → Nat) (u p : Nat) : Prop := (u = 0 ∧ p = 0 ∧ ∀ u' p', 1 ≤ u' → u' ≤ 5 → p' < u' + W - 1 → ¬ told K W tb u' p') ∨ (1 ≤ u ∧ u ≤ 5 ∧ p < u + W - 1 ∧ told K W tb u p ∧ (∀ p', p' < p → ¬ told K W tb u p') ∧ ∀ u' p', 1 ≤ u' → u' < u → p' < u' + W - 1 → ¬ told K W tb u' p')
theorem iS_uniq {u p u' p' : Nat} (h : iS K W tb u p) (h' : iS K W tb u' p') : u = u' ∧ p = p' := by
  rcases h with ⟨h1, h2, h3⟩ | ⟨h1, h2, h3, h4, h5, h6⟩
  · rcases h' with ⟨g1, g2, g3⟩ | ⟨g1, g2, g3, g4, g5, g6⟩
    · omega
    · exact absurd g4 (h3 u' p' g1 g2 g3)
  · rcases h' with ⟨g1, g2, g3⟩ | ⟨g1, g2, g3, g4, g5, g6⟩
    · exact absurd h4 (g3 u p h1 h2 h3)
    · have e : u = u' := by
        rcases Nat.lt_trichotomy u u' with q | q | q
        · exact absurd h4 (g6 u p h1 q h3)
        · exact q
        · exact absurd g4 (h6 u' p' g1 q g3)
      subst e
      refine ⟨rfl, ?_⟩
      rcases Nat.lt_trichotomy p p' with q | q | q
      · exact absurd h4 (g5 p q)
      · exact q
      · exact absurd g4 (h5 p' q)
def iC (σ : gs_S) (K W : Nat) (tb : Nat → Nat) : Prop := ∃ u p, iS K W tb u p ∧ σ.1 17 4 = nI u ∧ σ.1 17 5 = nI p ∧ (1 ≤ u → orig (σ.1 18) K W tb u (K ^ (u + W - 1)))
def cIv (σ : gs_S) (K W : Nat) (tb : Nat → Nat) : Prop := σ.1 17 3 = 0 ∨ (σ.1 17 3 = 1 ∧ iC σ K W tb)
def fIv (σ σ' : gs_S) : Prop := sX (fun k j => (k = 14 ∧ 3 ≤ j ∧ j ≤ 6) ∨ k = 15 ∨ k = 16 ∨ (k = 17 ∧ 3 ≤ j ∧ j ≤ 5) ∨ k = 18) σ σ'
theorem k_takeLeast {post : gs_S → Prop} {u : Nat} {r : Int32} (hR : okR K W tb) (hC : cR σ K W tb) (hu1 : 1 ≤ u) (hu : u ≤ 5) (hr : ∀ i, i < 32 → (bi r i = true ↔ i < u + W - 1 ∧ told K W tb u i)) (h0 : (∀ p, p < u + W - 1 → ¬ told K W tb u p) → post σ) (h1 : ∀ p, p < u + W - 1 → told K W tb u p → (∀ p', p' < p → ¬ told K W tb u p') → post (gs_pI (gs_pI σ 17 4 (nI u)) 17 5 (nI p))) : gM l v lyC 42 me_V_takeLeast (n + 1) [.ref (v.2.2 17), .int (nI u), .int r] σ (qV v lyC 42 post) := by
  have hW := hR.2.2.2.1
  have hW1 := hR.2.2.1
  have elen : nI u + σ.1 4 7 - 1 = nI (u + W - 1) := by
    rw [hC.2.1, nI_add]
    exact pk_sub (a := u + W) (b := 1) (by omega)
  have L : ∀ p, p ≤ u + W - 1 → (∀ p', p' < p → ¬ told K W tb u p') → G_V_takeLeast_2 l v n post σ (nI u) r (nI p) := by
    refine dn ?_ ?_
    · intro hI
      exact T_V_takeLeast_2 (br_t (by rw [elen]; exact nI_le (Nat.le_refl _) (by omega)) (h0 hI))
    · intro p hp ih hI
      refine T_V_takeLeast_2 (br_f (by rw [elen]; exact nI_ge hp (by omega)) ?_)
      rw [jAI_bit r (show p < 9 by omega)]
      refine ⟨fun q => ?_, fun q => h1 p hp ?_ hI⟩
      · rw [nI_1]
        refine ih (fun p' hp' => ?_)
        by_cases e : p' = p
        · subst e
          intro ht
          rw [(hr p' (by omega)).mpr ⟨hp, ht⟩] at q
          cases q
        · exact hI p' (by omega)
      · have q : bi r p = true := by
          cases z : bi r p with
          | false => exact absurd z q
          | true => rfl
        exact ((hr p (by omega)).mp q).2
  exact E_V_takeLeast (T_V_takeLeast_0 (L 0 (Nat.zero_le _) (fun p' h => absurd h (Nat.not_lt_zero p'))))
theorem k_V_find {post : gs_S → Prop} (hR : okR K W tb) (hC : cR σ K W tb) (hF : cF σ K W tb) (hc : cSj σ K W tb) (hi : cIj σ K W tb) (hv : cIv σ K W tb) (hp : ∀ σ', fIv σ σ' → cSj σ' K W tb → cIj σ' K W tb → σ'.1 17 3 = 1 → iC σ' K W tb → post σ') : gM l v lyC 42 me_V_find (n + 6) [.ref (v.2.2 17)] σ (qV v lyC 42 post) := by
  have hW := hR.2.2.2.1
  have hW1 := hR.2.2.1
  refine E_V_find (T_V_find_0 ?_)
  rcases hv with h0 | ⟨h1, h2⟩
  · refine br_t h0 ?_
    have hX0 : fIv σ (gs_pI (gs_pI (gs_pI σ 17 3 1) 17 4 0) 17 5 0) := ((sX.rf.I (by omega)).I (by omega)).I (by omega)
    refine k_losesNothing hR (hC.kept hX0 (fun _ => by omega) (fun _ => by omega)) (hF.kept hX0 (fun _ => by omega)) (by unfold cSj; rw [pI_k (by decide), pI_k (by decide), pI_k (by decide)]; exact hc) (by unfold cIj; rw [pI_k (by decide), pI_k (by decide), pI_k (by decide)]; exact hi) (fun τ0 hX hS hI => ?_)
    have hX1 : fIv σ τ0 := hX0.tr (hX.mono (fun k j h => by omega))
    have e3 : τ0.1 17 3 = 1 := by rw [(hX 17 3 (by omega)).1, pI_j (by decide), pI_j (by decide), pI_eq]
    have e4 : τ0.1 17 4 = 0 := by rw [(hX 17 4 (by omega)).1, pI_j (by decide), pI_eq]
    have e5 : τ0.1 17 5 = 0 := by rw [(hX 17 5 (by omega)).1, pI_eq]
    refine ⟨fun hij => br_t' (by decide) ?_, fun hij => br_f' rfl (hp τ0 hX1 hS hI e3 ⟨0, 0, Or.inl ⟨rfl, rfl, fun u' p' a1 a2 a3 ht => hij (told_ij hR a1 (by omega) ht)⟩, e4, e5, fun h => absurd h (by omega)⟩)⟩
    have keep : ∀ τ, sX (fun k j => (k = 17 ∧ (j = 4 ∨ j = 5)) ∨ k = 18) τ0 τ → fIv σ τ ∧ cSj τ K W tb ∧ cIj τ K W tb ∧ τ.1 17 3 = 1 := fun τ h => ⟨hX1.tr (h.mono (fun k j h => by omega)), by unfold cSj; rw [(h 14 3 (by omega)).1, (h 14 4 (by omega)).1]; exact hS, by unfold cIj; rw [(h 14 5 (by omega)).1, (h 14 6 (by omega)).1]; exact hI, (h 17 3 (by omega)).1.trans e3⟩
    have L : ∀ g u, u + g = 6 → 1 ≤ u → ∀ τ, sX (fun k j => (k = 17 ∧ (j = 4 ∨ j = 5)) ∨ k = 18) τ0 τ → τ.1 17 4 = 0 → τ.1 17 5 = 0 → (∀ u' p', 1 ≤ u' → u' < u → p' < u' + W - 1 → ¬ told K W tb u' p') → G_V_find_36 l v (n + 5) post τ (nI u) := by
      intro g
      induction g with
      | zero =>
        intro u hu hu1 τ hX2 h4 h5 hI2
        obtain ⟨k1, k2, k3, k4⟩ := keep τ hX2
        have e : u = 6 := by omega
        subst e
        exact T_V_find_36 (br_t (by decide) (T_V_find_64 (hp τ k1 k2 k3 k4 ⟨0, 0, Or.inl ⟨rfl, rfl, fun u' p' a1 a2 a3 => hI2 u' p' a1 (by omega) a3⟩, h4, h5, fun h => absurd h (by omega)⟩)))
      | succ g ih =>
        intro u hu hu1 τ hX2 h4 h5 hI2
        obtain ⟨k1, k2, k3, k4⟩ := keep τ hX2
        have h5u : ¬ (5 : Int32) < nI u := by
          rw [Int32.not_lt]
          exact nI_le (a := u) (b := 5) (by omega) (by omega)
        refine T_V_find_36 (br_f h5u (br_f' h4 ?_))
        refine k_placesTold hR (hC.kept k1 (fun _ => by omega) (fun _ => by omega)) hu1 (by omega) (fun r τ1 hX3 hr ho => ?_)
        have hX4 : sX (fun k j => (k = 17 ∧ (j = 4 ∨ j = 5)) ∨ k = 18) τ0 τ1 := hX2.tr (hX3.mono (fun k j h => by omega))
        obtain ⟨m1, m2, m3, m4⟩ := keep τ1 hX4
        refine k_takeLeast hR (hC.kept m1 (fun _ => by omega) (fun _ => by omega)) hu1 (by omega) hr (fun hn => ?_) (fun p hp1 ht hl => ?_)
        · rw [nI_1]
          refine ih (u + 1) (by omega) (by omega) τ1 hX4 ((hX3 17 4 (by omega)).1.trans h4) ((hX3 17 5 (by omega)).1.trans h5) (fun u' p' a1 a2 a3 => ?_)
          by_cases e : u' = u
          · subst e; exact hn p' a3
          · exact hI2 u' p' a1 (by omega) a3
        · have hX5 := (hX4.I (k := 17) (j := 4) (x := nI u) (by omega)).I (k := 17) (j := 5) (x := nI p) (by omega)
          obtain ⟨q1, q2, q3, q4⟩ := keep _ hX5
          have done : post (gs_pI (gs_pI τ1 17 4 (nI u)) 17 5 (nI p)) := hp _ q1 q2 q3 q4 ⟨u, p, Or.inr ⟨hu1, by omega, hp1, ht, hl, hI2⟩, by rw [pI_j (by decide), pI_eq], pI_eq, fun _ => by rw [pI_k (by decide), pI_k (by decide)]; exact ho ⟨p, hp1, ht⟩⟩
          refine T_V_find_36 ⟨fun _ => T_V_find_64 done, fun _ => br_t' ?_ (T_V_find_64 done)⟩
          rw [pI_j (by decide), pI_eq]
          exact nI_ne0 hu1 (by omega)
    exact L 5 1 rfl (Nat.le_refl _) τ0 sX.rf e4 e5 (fun u' p' a1 a2 _ => absurd a1 (by omega))
  · exact br_f (by rw [h1]; decide) (hp σ sX.rf hc hi h1 h2)
end K22
