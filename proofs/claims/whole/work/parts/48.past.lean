/-! The rings before: walks over nodes that come back. The class's side. -/
def dd (W c : Nat) (g : Nat → Nat) (t : Nat) : Nat := g ((t + (W - 1) / 2) % c)
/-- x is a node from which r steps more lead to b -/
def bS (K W c : Nat) (tb g : Nat → Nat) (b : Nat) : Nat → Nat → Prop
  | 0, x => x = b
  | r + 1, x => ∃ u, u < K ^ W ∧ u / K = x ∧ tb u = dd W c g (c - 1 - r) ∧ bS K W c tb g b r (u % K ^ (W - 1))
/-- the class's world with a rule and a ring -/
def cW (σ : gs_S) (K W c : Nat) (tb g : Nat → Nat) : Prop := okR K W tb ∧ cR σ K W tb ∧ cF σ K W tb ∧ cS σ K W tb ∧ 1 ≤ c ∧ c ≤ 64 ∧ σ.1 10 1 = nI c ∧ (∀ j, j < c → σ.1 11 j = nI (g j)) ∧ ∀ j, j < c → g j < K
theorem cW.kept {σ σ' : gs_S} {K W c : Nat} {tb g : Nat → Nat} {S : Nat → Nat → Prop} (h : cW σ K W c tb g) (hX : sX S σ σ') (hs : ∀ k j, 4 ≤ k → k ≤ 11 → ¬ S k j) : cW σ' K W c tb g := by
  obtain ⟨h1, h2, h3, h4, h5, h6, h7, h8, h9⟩ := h
  exact ⟨h1, h2.kept hX (fun j => hs 4 j (by omega) (by omega)) (fun j => hs 5 j (by omega) (by omega)), h3.kept hX (fun j => hs 6 j (by omega) (by omega)), h4.kept hX (fun j => hs 7 j (by omega) (by omega)) (fun j => hs 8 j (by omega) (by omega)) (fun j => hs 9 j (by omega) (by omega)), h5, h6, (hX 10 1 (hs 10 1 (by omega) (by omega))).1.trans h7, fun j hj => (hX 11 j (hs 11 j (by omega) (by omega))).1.trans (h8 j hj), h9⟩
theorem dd_lt {K W c : Nat} {g : Nat → Nat} (hc : 1 ≤ c) (hg : ∀ j, j < c → g j < K) (t : Nat) : dd W c g t < K := hg _ (Nat.mod_lt _ hc)
theorem bS_lt {K W c b : Nat} {tb g : Nat → Nat} (hR : okR K W tb) (hb : b < K ^ (W - 1)) : ∀ r x, bS K W c tb g b r x → x < K ^ (W - 1)
  | 0, x, h => by rw [show x = b from h]; exact hb
  | r + 1, x, h => by
    obtain ⟨u, hu, rfl, -⟩ := h
    exact div_lt' hR hu
section K8s
variable {l : Launch} {v : gs_V} {n : Nat} {σ : gs_S} {K W c : Nat} {tb g : Nat → Nat}
theorem k_due {post : Int32 → gs_S → Prop} {t : Nat} (hw : cW σ K W c tb g) (ht : t ≤ 64) (hp : post (nI (dd W c g t)) σ) : gM l v lyC 42 me_H_due (n + 2) [.ref (v.2.2 37), .int (nI t)] σ (qI v lyC 42 post) := by
  obtain ⟨hR, hC, -, -, hc1, hc2, ec, eg, hg⟩ := hw
  have hW := hR.2.2.2.1
  refine E_H_due (T_H_due_0 (k_R_left hR hC ?_))
  rw [ec, nI_add, jR_n (by omega) (by omega) (by omega)]
  have hm : (t + (W - 1) / 2) % c < c := Nat.mod_lt _ hc1
  refine ⟨nI_ne0 (by omega) (by omega), vp_in_nI (by omega) (by decide), ?_⟩
  rw [nI_clamp (by omega), eg _ hm]
  exact hp
theorem k_behind {post : Int64 → gs_S → Prop} {x s : Nat} (hx : x < 64) (hs : s < 4) (hp : post (σ.2.1 6 (x * 4 + s)) σ) : gM l v lyC 42 me_R_behind (n + 1) [.ref (v.2.2 4), .int (nI x), .int (nI s)] σ (qL v lyC 42 post) := by
  refine E_R_behind (T_R_behind_0 ?_)
  have e : nI x * 4 + nI s = nI (x * 4 + s) := by
    show nI x * nI 4 + nI s = _
    rw [pk_mul, nI_add]
  rw [e, nI_clamp (by omega)]
  exact ⟨vp_in_nI (by omega) (by decide), hp⟩
theorem k_leadingInto {post : Int64 → gs_S → Prop} {X : Int64} {s : Nat} (hR : okR K W tb) (hC : cR σ K W tb) (hF : cF σ K W tb) (hs : s < 4) (hp : ∀ r, (∀ y, y < 64 → (bt r y = true ↔ ∃ u, u < K ^ W ∧ u / K = y ∧ tb u = s ∧ bt X (u % K ^ (W - 1)) = true)) → post r σ) : gM l v lyC 42 me_H_leadingInto (n + 2) [.ref (v.2.2 37), .long X, .int (nI s)] σ (qL v lyC 42 post) := by
  have hN := pw_le1 hR.2.1 hR.2.2.2.1
  have hNp := pw_pos (W := W - 1) hR.1
  have loop : ∀ i, i ≤ K ^ (W - 1) → ∀ acc : Int64, (∀ y, y < 64 → (bt acc y = true ↔ y < i ∧ ∃ u, u < K ^ W ∧ u / K = y ∧ tb u = s ∧ bt X (u % K ^ (W - 1)) = true)) → G_H_leadingInto_6 l v (n + 1) post σ X (nI s) acc (nI i) := by
    refine dn ?_ ?_
    · intro acc ha
      refine T_H_leadingInto_6 (br_t (by rw [hC.2.2.2.1]; exact nI_le (Nat.le_refl _) (by omega)) (T_H_leadingInto_56 (hp acc (fun y hy => ?_))))
      rw [ha y hy]
      constructor
      · rintro ⟨-, h⟩; exact h
      · rintro ⟨u, hu, h1, h2⟩; exact ⟨by rw [← h1]; exact div_lt' hR hu, u, hu, h1, h2⟩
    · intro i hi ih acc ha
      refine T_H_leadingInto_6 (br_f (by rw [hC.2.2.2.1]; exact nI_ge hi (by omega)) ?_)
      refine ⟨fun h0 => T_H_leadingInto_56 (hp acc (fun y hy => ?_)), fun h0 => ?_⟩
      · rw [ha y hy]
        constructor
        · rintro ⟨-, h⟩; exact h
        · rintro ⟨u, hu, h1, h2, h3⟩
          rw [h0, bt_0] at h3; cases h3
      · refine k_behind (by omega) hs ?_
        have hbit : ¬ (σ.2.1 6 (i * 4 + s) &&& X) = 0 ↔ ∃ u, u < K ^ W ∧ u / K = i ∧ tb u = s ∧ bt X (u % K ^ (W - 1)) = true := by
          rw [bt_ne0]
          constructor
          · rintro ⟨y, hy, hb⟩
            rw [bt_and, Bool.and_eq_true] at hb
            obtain ⟨u, hu, h1, h2, h3⟩ := (hF i s y (by omega) hs hy).mp hb.1
            exact ⟨u, hu, h1, h2, by rw [h3]; exact hb.2⟩
          · rintro ⟨u, hu, h1, h2, h3⟩
            have hm : u % K ^ (W - 1) < K ^ (W - 1) := Nat.mod_lt _ hNp
            refine ⟨u % K ^ (W - 1), by omega, ?_⟩
            rw [bt_and, Bool.and_eq_true]
            exact ⟨(hF i s _ (by omega) hs (by omega)).mpr ⟨u, hu, h1, h2, rfl⟩, h3⟩
        refine ⟨fun h1 => T_H_leadingInto_50 ?_, fun h1 => T_H_leadingInto_50 ?_⟩
        · rw [nI_1]
          refine ih acc (fun y hy => ?_)
          rw [ha y hy]
          constructor
          · rintro ⟨h, h'⟩; exact ⟨by omega, h'⟩
          · rintro ⟨h, h'⟩
            refine ⟨?_, h'⟩
            rcases Nat.lt_or_ge y i with q | q
            · exact q
            · exfalso
              have e : y = i := by omega
              rw [e] at h'
              exact (hbit.mpr h') h1
        · rw [nI_1]
          refine ih _ (fun y hy => ?_)
          rw [bt_or, Bool.or_eq_true, bt_one i (by omega) y hy, decide_eq_true_eq, ha y hy]
          constructor
          · rintro (⟨h, h'⟩ | h)
            · exact ⟨by omega, h'⟩
            · subst h; exact ⟨by omega, hbit.mp h1⟩
          · rintro ⟨h, h'⟩
            rcases Nat.lt_or_ge y i with q | q
            · exact Or.inl ⟨q, h'⟩
            · exact Or.inr (by omega)
  exact E_H_leadingInto (T_H_leadingInto_0 (loop 0 (Nat.zero_le _) 0 (fun y hy => by rw [bt_0]; exact ⟨fun h => (by cases h), fun h => absurd h.1 (Nat.not_lt_zero _)⟩)))
theorem k_comesBackTo {post : Int32 → gs_S → Prop} {b : Nat} (hw : cW σ K W c tb g) (hb : b < K ^ (W - 1))
    (hp : ∀ σ', sX (fun k _ => k = 38) σ σ' → (∀ t, t ≤ c → ∀ y, y < 64 → (bt (σ'.2.1 38 t) y = true ↔ bS K W c tb g b (c - t) y)) → (bS K W c tb g b c b → post 1 σ') ∧ (¬ bS K W c tb g b c b → post 0 σ')) : gM l v lyC 42 me_H_comesBackTo (n + 3) [.ref (v.2.2 37), .int (nI b)] σ (qI v lyC 42 post) := by
  have hw0 := hw
  obtain ⟨hR, hC, hF, hSo, hc1, hc2, ec, eg, hg⟩ := hw
  have hN := pw_le1 hR.2.1 hR.2.2.2.1
  have hNp := pw_pos (W := W - 1) hR.1
  have loop : ∀ r, r ≤ c → ∀ τ, sX (fun k _ => k = 38) σ τ → (∀ t, r ≤ t → t ≤ c → ∀ y, y < 64 → (bt (τ.2.1 38 t) y = true ↔ bS K W c tb g b (c - t) y)) → G_H_comesBackTo_25 l v (n + 2) post τ (nI b) (nI r - 1) := by
    intro r
    induction r with
    | zero =>
      intro _ τ hX hI
      have hh := hp τ hX (fun t ht => hI t (Nat.zero_le _) ht)
      refine T_H_comesBackTo_25 (br_t (by decide) ?_)
      rw [jU_bit _ (show b < 64 by omega)]
      have e := hI 0 (Nat.zero_le _) (by omega) b (by omega)
      rw [Nat.sub_zero] at e
      refine ⟨fun h => T_H_comesBackTo_78 ⟨nar_b0, hh.2 (fun q => ?_)⟩, fun h => T_H_comesBackTo_78 ⟨nar_b1, hh.1 (e.mp ?_)⟩⟩
      · rw [e.mpr q] at h; cases h
      · cases hb2 : bt (τ.2.1 38 0) b with
        | false => exact absurd hb2 h
        | true => rfl
    | succ r ih =>
      intro hr τ hX hI
      have e1 : nI (r + 1) - 1 = nI r := nI_pred r
      have hwτ : cW τ K W c tb g := hw0.kept hX (fun k j _ _ => by omega)
      rw [e1]
      refine T_H_comesBackTo_25 (br_f (nI_pos (by omega)) ?_)
      rw [nI_1, nI_clamp (n := r + 1) (by omega)]
      refine ⟨vp_in_nI (by omega) (by decide), k_due hwτ (by omega) ?_⟩
      have hd := dd_lt (W := W) hc1 hg r
      refine k_leadingInto hR hwτ.2.1 hwτ.2.2.1 (by have := hR.2.1; omega) (fun q hq => ⟨vp_in_nI (by omega) (by decide), ?_⟩)
      rw [nI_clamp (by omega), show nI r + (-1) = nI r - 1 from (Int32.sub_eq_add_neg _ _).symm]
      refine ih (by omega) _ (hX.L rfl) (fun t ht1 ht2 y hy => ?_)
      rw [pL_row]
      show bt (if t = r then q else τ.2.1 38 t) y = true ↔ _
      by_cases htr : t = r
      · subst htr
        rw [if_pos rfl, hq y hy]
        have e2 : c - t = (c - (t + 1)) + 1 := by omega
        rw [e2]
        show _ ↔ ∃ u, u < K ^ W ∧ u / K = y ∧ tb u = dd W c g (c - 1 - (c - (t + 1))) ∧ bS K W c tb g b (c - (t + 1)) (u % K ^ (W - 1))
        rw [show c - 1 - (c - (t + 1)) = t by omega]
        constructor
        · rintro ⟨u, hu, h1, h2, h3⟩
          have hm : u % K ^ (W - 1) < K ^ (W - 1) := Nat.mod_lt _ hNp
          exact ⟨u, hu, h1, h2, (hI (t + 1) (by omega) (by omega) _ (by omega)).mp h3⟩
        · rintro ⟨u, hu, h1, h2, h3⟩
          have hm : u % K ^ (W - 1) < K ^ (W - 1) := Nat.mod_lt _ hNp
          exact ⟨u, hu, h1, h2, (hI (t + 1) (by omega) (by omega) _ (by omega)).mpr h3⟩
      · rw [if_neg htr]
        exact hI t (by omega) ht2 y hy
  refine E_H_comesBackTo (T_H_comesBackTo_0 ?_)
  rw [ec, nI_clamp (by omega)]
  refine ⟨vp_in_nI (by omega) (by decide), loop c (Nat.le_refl _) _ (sX.rf.L rfl) (fun t ht1 ht2 y hy => ?_)⟩
  have e : t = c := by omega
  subst e
  rw [pL_eq, bt_one b (by omega) y hy, decide_eq_true_eq, Nat.sub_self]
  exact Iff.rfl
end K8s
