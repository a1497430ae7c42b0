/-! Pairs: stayApart, missesNothing, losesNothing of the class. -/
theorem br_t' {c A B : Prop} (h : ¬ c) (a : A) : (¬ c → A) ∧ (c → B) := ⟨fun _ => a, fun q => absurd q h⟩
theorem br_f' {c A B : Prop} (h : c) (b : B) : (¬ c → A) ∧ (c → B) := ⟨fun q => absurd h q, fun _ => b⟩
section K15
variable {l : Launch} {v : gs_V} {n : Nat} {σ : gs_S} {K W : Nat} {tb : Nat → Nat}
theorem k_allNodes {post : Int64 → gs_S → Prop} (hR : okR K W tb) (hC : cR σ K W tb) (hp : ∀ r, (∀ y, y < 64 → (bt r y = true ↔ y < K ^ (W - 1))) → post r σ) : gM l v lyC 42 me_R_allNodes (n + 1) [.ref (v.2.2 4)] σ (qL v lyC 42 post) := by
  have hN := pw_le1 hR.2.1 hR.2.2.2.1
  refine E_R_allNodes (T_R_allNodes_0 ?_)
  rw [hC.2.2.2.1]
  refine ⟨fun h => T_R_allNodes_23 (hp _ (fun y hy => ?_)), fun h => T_R_allNodes_23 (hp _ (fun y hy => ?_))⟩
  · have h64 : K ^ (W - 1) ≠ 64 := fun e => h (by rw [e]; rfl)
    rw [bt_all _ (by omega) y hy, decide_eq_true_eq]
  · have h64 : K ^ (W - 1) = 64 := (nI_nat (b := 64) (by omega) (by omega)).mp h
    rw [bt_m1 y hy, h64]
    exact ⟨fun _ => hy, fun _ => rfl⟩
theorem k_lasting {post : Int64 → gs_S → Prop} {a : Nat} (hR : okR K W tb) (hC : cR σ K W tb) (hF : cF σ K W tb) (ha : a < K ^ (W - 1)) (hp : ∀ r, (∀ y, y < 64 → (bt r y = true ↔ bt (σ.2.1 15 a) y = true ∧ ∃ x' y', go2 K W tb a y x' y' ∧ bt (σ.2.1 15 x') y' = true)) → post r σ) : gM l v lyC 42 me_P_lasting (n + 2) [.ref (v.2.2 14), .int (nI a)] σ (qL v lyC 42 post) := by
  have hN := pw_le1 hR.2.1 hR.2.2.2.1
  have hNp := pw_pos (W := W - 1) hR.1
  have hKW := pw_le hR.2.1 hR.2.2.2.1
  have hK := hR.2.1
  have hK2 := hR.1
  have hlast : a * K + K ≤ K ^ W := by
    rw [pw_s hR.2.2.1]
    have : (a + 1) * K ≤ K ^ (W - 1) * K := Nat.mul_le_mul_right K ha
    rw [Nat.add_mul] at this
    omega
  have hrange : ∀ u, u / K = a → ∃ c, c < K ∧ u = a * K + c := fun u hu => by
    have h1 := Nat.div_add_mod u K
    have h2 := Nat.mod_lt u (show 0 < K by omega)
    rw [hu, Nat.mul_comm] at h1
    exact ⟨u % K, h2, h1.symm⟩
  have hdiv : ∀ c, c < K → (a * K + c) / K = a := fun c hc => by
    rw [Nat.mul_comm, Nat.mul_add_div (by omega), Nat.div_eq_of_lt hc, Nat.add_zero]
  have L5 : ∀ c, c ≤ K → ∀ acc : Int64, (∀ y, y < 64 → (bt acc y = true ↔ ∃ c', c' < c ∧ ∃ w, w < K ^ W ∧ w / K = y ∧ tb w = tb (a * K + c') ∧ bt (σ.2.1 15 ((a * K + c') % K ^ (W - 1))) (w % K ^ (W - 1)) = true)) → G_P_lasting_5 l v (n + 1) post σ (nI a) acc (nI c) := by
    refine dn ?_ ?_
    · intro acc hacc
      refine T_P_lasting_5 (br_t (by rw [hC.1]; exact nI_le (Nat.le_refl _) (by omega)) ⟨vp_in_nI (by omega) (by decide), ?_⟩)
      rw [nI_clamp (by omega)]
      refine hp _ (fun y hy => ?_)
      rw [bt_and, Bool.and_eq_true, hacc y hy]
      constructor
      · rintro ⟨⟨c', hc', w, h1, h2, h3, h4⟩, h5⟩
        exact ⟨h5, _, _, ⟨a * K + c', w, by omega, h1, hdiv c' hc', h2, h3.symm, rfl, rfl⟩, h4⟩
      · rintro ⟨h5, x', y', ⟨u, w, h1, h2, h3, h4, h6, h7, h8⟩, h9⟩
        obtain ⟨c', hc', e⟩ := hrange u h3
        subst e h7 h8
        exact ⟨⟨c', hc', w, h2, h4, h6.symm, h9⟩, h5⟩
    · intro c hc ih acc hacc
      have hu : a * K + c < K ^ W := by omega
      have ht := hR.2.2.2.2 _ hu
      have hm : (a * K + c) % K ^ (W - 1) < K ^ (W - 1) := Nat.mod_lt _ hNp
      refine T_P_lasting_5 (br_f (by rw [hC.1]; exact nI_ge hc (by omega)) ?_)
      rw [hC.1, pk_mul, nI_add]
      refine k_R_end hR hC (by omega) ⟨vp_in_nI (by omega) (by decide), ?_⟩
      rw [nI_clamp (by omega)]
      have L50 : ∀ b, b ≤ K ^ (W - 1) → ∀ acc : Int64, (∀ y, y < 64 → (bt acc y = true ↔ (∃ c', c' < c ∧ ∃ w, w < K ^ W ∧ w / K = y ∧ tb w = tb (a * K + c') ∧ bt (σ.2.1 15 ((a * K + c') % K ^ (W - 1))) (w % K ^ (W - 1)) = true) ∨ (y < b ∧ ∃ w, w < K ^ W ∧ w / K = y ∧ tb w = tb (a * K + c) ∧ bt (σ.2.1 15 ((a * K + c) % K ^ (W - 1))) (w % K ^ (W - 1)) = true))) → G_P_lasting_50 l v (n + 1) post σ (nI a) acc (nI c) (nI (a * K + c)) (σ.2.1 15 ((a * K + c) % K ^ (W - 1))) (nI b) := by
        refine dn ?_ ?_
        · intro acc hacc
          refine T_P_lasting_50 (br_t (by rw [hC.2.2.2.1]; exact nI_le (Nat.le_refl _) (by omega)) ?_)
          rw [nI_1]
          refine ih acc (fun y hy => ?_)
          rw [hacc y hy]
          constructor
          · rintro (⟨c', hc', h⟩ | ⟨_, h⟩)
            · exact ⟨c', by omega, h⟩
            · exact ⟨c, by omega, h⟩
          · rintro ⟨c', hc', w, h1, h2, h3⟩
            rcases Nat.lt_or_ge c' c with q | q
            · exact Or.inl ⟨c', q, w, h1, h2, h3⟩
            · rw [show c' = c by omega] at h3
              exact Or.inr ⟨by rw [← h2]; exact div_lt' hR h1, w, h1, h2, h3⟩
        · intro b hb ih2 acc hacc
          refine T_P_lasting_50 (br_f (by rw [hC.2.2.2.1]; exact nI_ge hb (by omega)) ⟨vp_in_nI (by omega) (by decide), ?_⟩)
          rw [nI_clamp (by omega), hC.2.2.2.2 _ hu]
          refine k_behind (by omega) (by omega) ?_
          have hbit : ¬ (σ.2.1 6 (b * 4 + tb (a * K + c)) &&& σ.2.1 15 ((a * K + c) % K ^ (W - 1))) = 0 ↔ ∃ w, w < K ^ W ∧ w / K = b ∧ tb w = tb (a * K + c) ∧ bt (σ.2.1 15 ((a * K + c) % K ^ (W - 1))) (w % K ^ (W - 1)) = true := by
            rw [bt_ne0]
            constructor
            · rintro ⟨y, hy, hb9⟩
              rw [bt_and, Bool.and_eq_true] at hb9
              obtain ⟨w, h1, h2, h3, h4⟩ := (hF b _ y (by omega) (by omega) hy).mp hb9.1
              exact ⟨w, h1, h2, h3, by rw [h4]; exact hb9.2⟩
            · rintro ⟨w, h1, h2, h3, h4⟩
              have hm : w % K ^ (W - 1) < K ^ (W - 1) := Nat.mod_lt _ hNp
              refine ⟨w % K ^ (W - 1), by omega, ?_⟩
              rw [bt_and, Bool.and_eq_true]
              exact ⟨(hF b _ _ (by omega) (by omega) (by omega)).mpr ⟨w, h1, h2, h3, rfl⟩, h4⟩
          refine ⟨fun h => T_P_lasting_96 ?_, fun h => T_P_lasting_96 ?_⟩
          · rw [nI_1]
            refine ih2 acc (fun y hy => ?_)
            rw [hacc y hy]
            constructor
            · rintro (h9 | ⟨q, h9⟩)
              · exact Or.inl h9
              · exact Or.inr ⟨by omega, h9⟩
            · rintro (h9 | ⟨q, h9⟩)
              · exact Or.inl h9
              · refine Or.inr ⟨?_, h9⟩
                rcases Nat.lt_or_ge y b with q2 | q2
                · exact q2
                · exfalso
                  rw [show y = b by omega] at h9
                  exact (hbit.mpr h9) h
          · rw [nI_1]
            refine ih2 _ (fun y hy => ?_)
            rw [bt_or, Bool.or_eq_true, bt_one b (by omega) y hy, decide_eq_true_eq, hacc y hy]
            constructor
            · rintro ((h9 | ⟨q, h9⟩) | q)
              · exact Or.inl h9
              · exact Or.inr ⟨by omega, h9⟩
              · subst q; exact Or.inr ⟨by omega, hbit.mp h⟩
            · rintro (h9 | ⟨q, h9⟩)
              · exact Or.inl (Or.inl h9)
              · rcases Nat.lt_or_ge y b with q2 | q2
                · exact Or.inl (Or.inr ⟨q2, h9⟩)
                · exact Or.inr (by omega)
      refine L50 0 (Nat.zero_le _) acc (fun y hy => ?_)
      rw [hacc y hy]
      exact ⟨fun h => Or.inl h, fun h => h.elim id (fun q => absurd q.1 (Nat.not_lt_zero _))⟩
  refine E_P_lasting (T_P_lasting_0 (L5 0 (Nat.zero_le _) 0 (fun y hy => ?_)))
  rw [bt_0]
  exact ⟨fun h => (by cases h), fun ⟨c', h, _⟩ => absurd h (Nat.not_lt_zero _)⟩
def cnM9 (σ : gs_S) (N : Nat) : Nat := cq (fun p => decide (p / 64 < N) && bt (σ.2.1 15 (p / 64)) (p % 64)) 4096
def fwd (K W : Nat) (tb : Nat → Nat) (S : Nat → Nat → Prop) : Prop := ∀ x y, S x y → x < K ^ (W - 1) ∧ y < K ^ (W - 1) ∧ x ≠ y ∧ ∃ x' y', go2 K W tb x y x' y' ∧ S x' y'
theorem k_stayApart {post : Int32 → gs_S → Prop} (hR : okR K W tb) (hC : cR σ K W tb) (hF : cF σ K W tb) (hp : ∀ σ', sX (fun k _ => k = 15) σ σ' → (lF K W tb → post 1 σ') ∧ (¬ lF K W tb → post 0 σ')) : gM l v lyC 42 me_P_stayApart (n + 3) [.ref (v.2.2 14)] σ (qI v lyC 42 post) := by
  have hN := pw_le1 hR.2.1 hR.2.2.2.1
  have hNp := pw_pos (W := W - 1) hR.1
  have fin : ∀ τ, sX (fun k _ => k = 15) σ τ → (∀ a y, a < K ^ (W - 1) → y < 64 → bt (τ.2.1 15 a) y = true → y < K ^ (W - 1) ∧ y ≠ a) → (∀ S, fwd K W tb S → ∀ x y, S x y → bt (τ.2.1 15 x) y = true) → (∀ a y, a < K ^ (W - 1) → y < 64 → bt (τ.2.1 15 a) y = true → ∃ x' y', go2 K W tb a y x' y' ∧ bt (τ.2.1 15 x') y' = true) → G_P_stayApart_117 l v (n + 2) post τ := by
    intro τ hX h1 h2 h3
    have iff : lF K W tb ↔ ∃ a y, a < K ^ (W - 1) ∧ y < 64 ∧ bt (τ.2.1 15 a) y = true := by
      constructor
      · rintro ⟨S, ⟨x, y, hxy⟩, hS⟩
        have := hS x y hxy
        exact ⟨x, y, this.1, by omega, h2 S hS x y hxy⟩
      · rintro ⟨a, y, ha, hy, hb⟩
        refine ⟨fun a y => a < K ^ (W - 1) ∧ y < 64 ∧ bt (τ.2.1 15 a) y = true, ⟨a, y, ha, hy, hb⟩, fun a y ⟨b1, b2, b3⟩ => ?_⟩
        have q := h1 a y b1 b2 b3
        obtain ⟨x', y', q2, q3⟩ := h3 a y b1 b2 b3
        have ql := go2_lt hR q2
        exact ⟨b1, q.1, fun e => q.2 e.symm, x', y', q2, ql.2.2.1, by omega, q3⟩
    refine T_P_stayApart_117 ?_
    have L : ∀ a, a ≤ K ^ (W - 1) → ∀ acc : Int64, (acc = 0 ↔ ∀ a' y, a' < a → y < 64 → bt (τ.2.1 15 a') y = false) → G_P_stayApart_122 l v (n + 2) post τ acc (nI a) := by
      refine dn ?_ ?_
      · intro acc hacc
        refine T_P_stayApart_122 (br_t (by rw [(hX 4 9 (by omega)).1, hC.2.2.2.1]; exact nI_le (Nat.le_refl _) (by omega)) ⟨fun h => T_P_stayApart_161 ⟨nar_b0, (hp τ hX).2 ?_⟩, fun h => T_P_stayApart_161 ⟨nar_b1, (hp τ hX).1 ?_⟩⟩)
        · rw [iff]
          rintro ⟨a, y, ha, hy, hb⟩
          rw [hacc.mp h a y ha hy] at hb
          cases hb
        · rw [iff]
          apply Classical.byContradiction
          intro hno
          apply h
          rw [hacc]
          intro a y ha hy
          cases q : bt (τ.2.1 15 a) y with
          | false => rfl
          | true => exact absurd ⟨a, y, ha, hy, q⟩ hno
      · intro a ha ih acc hacc
        refine T_P_stayApart_122 (br_f (by rw [(hX 4 9 (by omega)).1, hC.2.2.2.1]; exact nI_ge ha (by omega)) ⟨vp_in_nI (by omega) (by decide), ?_⟩)
        rw [nI_clamp (by omega), nI_1]
        refine ih _ ?_
        rw [bt_eq0]
        rw [bt_eq0] at hacc
        constructor
        · intro h a' y ha' hy
          rcases Nat.lt_or_ge a' a with q | q
          · refine hacc.mp (fun i hi => ?_) a' y q hy
            have := h i hi
            rw [bt_or, Bool.or_eq_false_iff] at this
            exact this.1
          · rw [show a' = a by omega]
            have := h y hy
            rw [bt_or, Bool.or_eq_false_iff] at this
            exact this.2
        · intro h i hi
          rw [bt_or, Bool.or_eq_false_iff]
          exact ⟨hacc.mpr (fun a' y ha' hy => h a' y (by omega) hy) i hi, h a i (by omega) hi⟩
    exact L 0 (Nat.zero_le _) 0 ⟨fun _ a' y h => absurd h (Nat.not_lt_zero _), fun _ => rfl⟩
  have L44 : ∀ p, p ≤ 4097 → ∀ τ x1, sX (fun k _ => k = 15) σ τ → (∀ a y, a < K ^ (W - 1) → y < 64 → bt (τ.2.1 15 a) y = true → y < K ^ (W - 1) ∧ y ≠ a) → (∀ S, fwd K W tb S → ∀ x y, S x y → bt (τ.2.1 15 x) y = true) → ((x1 = 1 ∧ cnM9 τ (K ^ (W - 1)) + p ≤ 4096) ∨ (x1 = 0 ∧ ∀ a y, a < K ^ (W - 1) → y < 64 → bt (τ.2.1 15 a) y = true → ∃ x' y', go2 K W tb a y x' y' ∧ bt (τ.2.1 15 x') y' = true)) → G_P_stayApart_44 l v (n + 2) post τ x1 (nI p) := by
    refine dn ?_ ?_
    · intro τ x1 hX h1 h2 h4
      refine T_P_stayApart_44 ⟨fun _ => ?_, fun h => absurd (show (4096 : Int32) < nI 4097 by decide) h⟩
      rcases h4 with ⟨_, h4⟩ | ⟨_, h4⟩
      · omega
      · exact fin τ hX h1 h2 h4
    · intro p hp' ih τ x1 hX h1 h2 h4
      rcases h4 with ⟨e, h4⟩ | ⟨e, h4⟩
      · subst e
        have hple : ¬ (4096 : Int32) < nI p := by
          rw [Int32.not_lt]
          exact nI_le (a := p) (b := 4096) (by omega) (by omega)
        refine T_P_stayApart_44 (br_f hple (br_f (by decide) ?_))
        have L59 : ∀ a, a ≤ K ^ (W - 1) → ∀ τ x1, sX (fun k _ => k = 15) σ τ → (∀ a y, a < K ^ (W - 1) → y < 64 → bt (τ.2.1 15 a) y = true → y < K ^ (W - 1) ∧ y ≠ a) → (∀ S, fwd K W tb S → ∀ x y, S x y → bt (τ.2.1 15 x) y = true) → ((x1 = 1 ∧ cnM9 τ (K ^ (W - 1)) + (p + 1) ≤ 4096) ∨ (x1 = 0 ∧ cnM9 τ (K ^ (W - 1)) + p ≤ 4096 ∧ ∀ a' y, a' < a → y < 64 → bt (τ.2.1 15 a') y = true → ∃ x' y', go2 K W tb a' y x' y' ∧ bt (τ.2.1 15 x') y' = true)) → G_P_stayApart_59 l v (n + 2) post τ x1 (nI p) (nI a) := by
          refine dn ?_ ?_
          · intro τ x1 hX h1 h2 h4
            refine T_P_stayApart_59 (br_t (by rw [(hX 4 9 (by omega)).1, hC.2.2.2.1]; exact nI_le (Nat.le_refl _) (by omega)) ?_)
            rw [nI_1]
            refine ih τ x1 hX h1 h2 ?_
            rcases h4 with h4 | ⟨h4, h5, h6⟩
            · exact Or.inl h4
            · exact Or.inr ⟨h4, h6⟩
          · intro a ha ih2 τ x1 hX h1 h2 h4
            have hCτ : cR τ K W tb := hC.kept hX (fun _ => by omega) (fun _ => by omega)
            have hFτ : cF τ K W tb := hF.kept hX (fun _ => by omega)
            refine T_P_stayApart_59 (br_f (by rw [(hX 4 9 (by omega)).1, hC.2.2.2.1]; exact nI_ge ha (by omega)) (k_lasting hR hCτ hFτ ha (fun r hr => ⟨vp_in_nI (by omega) (by decide), ?_⟩)))
            rw [nI_clamp (by omega)]
            have row : ∀ a' y, bt ((gs_pL τ 15 a r).2.1 15 a') y = true ↔ (a' ≠ a ∧ bt (τ.2.1 15 a') y = true) ∨ (a' = a ∧ bt r y = true) := fun a' y => by
              rw [pL_row]
              show bt (if a' = a then r else τ.2.1 15 a') y = true ↔ _
              by_cases e : a' = a
              · rw [if_pos e]; exact ⟨fun h => Or.inr ⟨e, h⟩, fun h => h.elim (fun q => absurd e q.1) (fun q => q.2)⟩
              · rw [if_neg e]; exact ⟨fun h => Or.inl ⟨e, h⟩, fun h => h.elim (fun q => q.2) (fun q => absurd q.1 e)⟩
            have sub : ∀ a' y, y < 64 → bt ((gs_pL τ 15 a r).2.1 15 a') y = true → bt (τ.2.1 15 a') y = true := fun a' y hy h => by
              rcases (row a' y).mp h with q | q
              · exact q.2
              · rw [q.1]; exact ((hr y hy).mp q.2).1
            have n2 : ∀ S, fwd K W tb S → ∀ x y, S x y → bt ((gs_pL τ 15 a r).2.1 15 x) y = true := fun S hS x y hxy => by
              have q := h2 S hS x y hxy
              obtain ⟨q1, q2, q3, x', y', q4, q5⟩ := hS x y hxy
              refine (row x y).mpr ?_
              by_cases e : x = a
              · refine Or.inr ⟨e, (hr y (by omega)).mpr ⟨by rw [← e]; exact q, x', y', by rw [← e]; exact q4, h2 S hS x' y' q5⟩⟩
              · exact Or.inl ⟨e, q⟩
            refine ⟨fun h => T_P_stayApart_95 ⟨vp_in_nI (by omega) (by decide), ?_⟩, fun h => T_P_stayApart_95 ⟨vp_in_nI (by omega) (by decide), ?_⟩⟩
            · rw [nI_clamp (by omega), nI_1]
              have same : ∀ a', (gs_pL τ 15 a r).2.1 15 a' = τ.2.1 15 a' := fun a' => by
                rw [pL_row]
                show (if a' = a then r else τ.2.1 15 a') = _
                by_cases e : a' = a
                · rw [if_pos e, e, h]
                · rw [if_neg e]
              have e0 : (x1 ||| 0) = x1 := by
                rcases h4 with ⟨e, _⟩ | ⟨e, _⟩ <;> rw [e] <;> decide
              have ec : cnM9 (gs_pL τ 15 a r) (K ^ (W - 1)) = cnM9 τ (K ^ (W - 1)) := by
                unfold cnM9
                congr 1
                funext p
                rw [same]
              rw [e0]
              refine ih2 _ x1 (hX.L rfl) (fun a' y ha' hy hb => h1 a' y ha' hy (sub a' y hy hb)) n2 ?_
              rcases h4 with ⟨h4, h5⟩ | ⟨h4, h5, h6⟩
              · exact Or.inl ⟨h4, by rw [ec]; exact h5⟩
              · refine Or.inr ⟨h4, by rw [ec]; exact h5, fun a' y ha' hy hb => ?_⟩
                rw [same] at hb
                rcases Nat.lt_or_ge a' a with q | q
                · obtain ⟨x', y', q1, q2⟩ := h6 a' y q hy hb
                  exact ⟨x', y', q1, by rw [same]; exact q2⟩
                · rw [show a' = a by omega] at hb ⊢
                  rw [← h] at hb
                  obtain ⟨_, x', y', q1, q2⟩ := (hr y hy).mp hb
                  exact ⟨x', y', q1, by rw [same]; exact q2⟩
            · rw [nI_clamp (by omega), nI_1]
              have e0 : (x1 ||| 1) = 1 := by
                rcases h4 with ⟨e, _⟩ | ⟨e, _⟩ <;> rw [e] <;> decide
              rw [e0]
              refine ih2 _ 1 (hX.L rfl) (fun a' y ha' hy hb => h1 a' y ha' hy (sub a' y hy hb)) n2 (Or.inl ⟨rfl, ?_⟩)
              have hex : ∃ y, y < 64 ∧ bt (τ.2.1 15 a) y = true ∧ bt r y = false := by
                apply Classical.byContradiction
                intro hno
                apply h
                refine bt_ext (fun i hi => ?_)
                cases q : bt r i with
                | true => rw [((hr i hi).mp q).1]
                | false =>
                  cases q2 : bt (τ.2.1 15 a) i with
                  | false => rfl
                  | true => exact absurd ⟨i, hi, q2, q⟩ hno
              obtain ⟨y0, hy0, b1, b2⟩ := hex
              have hlt : cnM9 (gs_pL τ 15 a r) (K ^ (W - 1)) < cnM9 τ (K ^ (W - 1)) := by
                refine cq_lt 4096 (fun i hi hb => ?_) ⟨64 * a + y0, by omega, ?_, ?_⟩
                · rw [Bool.and_eq_true] at hb ⊢
                  exact ⟨hb.1, sub _ _ (Nat.mod_lt _ (by decide)) hb.2⟩
                · rw [show (64 * a + y0) / 64 = a by omega, show (64 * a + y0) % 64 = y0 by omega, pL_eq, b2, Bool.and_false]
                · rw [show (64 * a + y0) / 64 = a by omega, show (64 * a + y0) % 64 = y0 by omega, b1, decide_eq_true ha]; rfl
              rcases h4 with ⟨_, h4⟩ | ⟨_, h4, _⟩ <;> omega
        exact L59 0 (Nat.zero_le _) τ 0 hX h1 h2 (Or.inr ⟨rfl, h4, fun a' y h => absurd h (Nat.not_lt_zero a')⟩)
      · subst e
        exact T_P_stayApart_44 ⟨fun _ => fin τ hX h1 h2 h4, fun _ => br_t rfl (fin τ hX h1 h2 h4)⟩
  have hcn : ∀ τ, cnM9 τ (K ^ (W - 1)) + 0 ≤ 4096 := fun τ => by
    have : cnM9 τ (K ^ (W - 1)) ≤ 4096 := cq_le _ _
    omega
  have L2 : ∀ a, a ≤ K ^ (W - 1) → ∀ τ, sX (fun k _ => k = 15) σ τ → (∀ a' y, a' < a → y < 64 → (bt (τ.2.1 15 a') y = true ↔ y < K ^ (W - 1) ∧ y ≠ a')) → G_P_stayApart_2 l v (n + 2) post τ (nI a) := by
    refine dn ?_ ?_
    · intro τ hX h1
      refine T_P_stayApart_2 (br_t (by rw [(hX 4 9 (by omega)).1, hC.2.2.2.1]; exact nI_le (Nat.le_refl _) (by omega)) ?_)
      refine L44 0 (Nat.zero_le _) τ 1 hX (fun a y ha hy hb => (h1 a y ha hy).mp hb) (fun S hS x y hxy => ?_) (Or.inl ⟨rfl, hcn τ⟩)
      obtain ⟨q1, q2, q3, -⟩ := hS x y hxy
      exact (h1 x y q1 (by omega)).mpr ⟨q2, fun e => q3 e.symm⟩
    · intro a ha ih τ hX h1
      have hCτ : cR τ K W tb := hC.kept hX (fun _ => by omega) (fun _ => by omega)
      refine T_P_stayApart_2 (br_f (by rw [(hX 4 9 (by omega)).1, hC.2.2.2.1]; exact nI_ge ha (by omega)) (k_allNodes hR hCτ (fun r hr => ⟨vp_in_nI (by omega) (by decide), ?_⟩)))
      rw [nI_clamp (by omega), nI_1]
      refine ih _ (hX.L rfl) (fun a' y ha' hy => ?_)
      rw [pL_row]
      show bt (if a' = a then _ else τ.2.1 15 a') y = true ↔ _
      by_cases e : a' = a
      · rw [if_pos e, bt_and, Bool.and_eq_true, hr y hy, bt_xor, bt_m1 y hy, bt_one a (by omega) y hy, Bool.xor_true, e]
        simp
      · rw [if_neg e]; exact h1 a' y (by omega) hy
  exact E_P_stayApart (T_P_stayApart_0 (L2 0 (Nat.zero_le _) σ sX.rf (fun a' y h => absurd h (Nat.not_lt_zero a'))))
/-- the caches of the pairs -/
def cSj (σ : gs_S) (K W : Nat) (tb : Nat → Nat) : Prop := σ.1 14 3 = 0 ∨ (σ.1 14 3 = 1 ∧ ((σ.1 14 4 = 1 ∧ sj K W tb) ∨ (σ.1 14 4 = 0 ∧ ¬ sj K W tb)))
def cIj (σ : gs_S) (K W : Nat) (tb : Nat → Nat) : Prop := σ.1 14 5 = 0 ∨ (σ.1 14 5 = 1 ∧ ((σ.1 14 6 = 1 ∧ ij K W tb) ∨ (σ.1 14 6 = 0 ∧ ¬ ij K W tb)))
def fPr (σ σ' : gs_S) : Prop := sX (fun k j => (k = 14 ∧ 3 ≤ j ∧ j ≤ 6) ∨ k = 15 ∨ k = 16) σ σ'
theorem k_missesNothing {post : Int32 → gs_S → Prop} (hR : okR K W tb) (hC : cR σ K W tb) (hF : cF σ K W tb) (hc : cSj σ K W tb) (hp : ∀ σ', fPr σ σ' → cSj σ' K W tb → σ'.1 14 5 = σ.1 14 5 → σ'.1 14 6 = σ.1 14 6 → (sj K W tb → post 1 σ') ∧ (¬ sj K W tb → post 0 σ')) : gM l v lyC 42 me_P_missesNothing (n + 4) [.ref (v.2.2 14)] σ (qI v lyC 42 post) := by
  refine E_P_missesNothing (T_P_missesNothing_0 ?_)
  rcases hc with h0 | ⟨h1, h2⟩
  · refine ⟨fun h => absurd h0 h, fun _ => ?_⟩
    have hX0 : fPr σ (gs_pI σ 14 3 1) := sX.rf.I (by omega)
    refine k_partAndMeet hR (hC.kept hX0 (fun _ => by omega) (fun _ => by omega)) (hF.kept hX0 (fun _ => by omega)) (fun τ hX => ⟨fun hD => ⟨fun _ => T_P_missesNothing_25 ⟨⟨nar_b0, rfl⟩, T_P_missesNothing_28 ?_⟩, fun h => absurd h (by decide)⟩, fun hD => ⟨fun h => absurd rfl h, fun _ => T_P_missesNothing_25 ⟨⟨nar_b1, rfl⟩, T_P_missesNothing_28 ?_⟩⟩⟩)
    · rw [pI_eq]
      have hX2 : fPr σ (gs_pI τ 14 4 0) := (hX0.tr (hX.mono (fun k j h => by omega))).I (by omega)
      have e3 : (gs_pI τ 14 4 0).1 14 3 = 1 := by rw [pI_j (by decide), (hX 14 3 (by omega)).1, pI_eq]
      exact ⟨nar_b0, (hp _ hX2 (Or.inr ⟨e3, Or.inr ⟨pI_eq, fun q => q hD⟩⟩) (by rw [pI_j (by decide), (hX 14 5 (by omega)).1, pI_j (by decide)]) (by rw [pI_j (by decide), (hX 14 6 (by omega)).1, pI_j (by decide)])).2 (fun q => q hD)⟩
    · rw [pI_eq]
      have hX2 : fPr σ (gs_pI τ 14 4 1) := (hX0.tr (hX.mono (fun k j h => by omega))).I (by omega)
      have e3 : (gs_pI τ 14 4 1).1 14 3 = 1 := by rw [pI_j (by decide), (hX 14 3 (by omega)).1, pI_eq]
      exact ⟨nar_b1, (hp _ hX2 (Or.inr ⟨e3, Or.inl ⟨pI_eq, hD⟩⟩) (by rw [pI_j (by decide), (hX 14 5 (by omega)).1, pI_j (by decide)]) (by rw [pI_j (by decide), (hX 14 6 (by omega)).1, pI_j (by decide)])).1 hD⟩
  · refine ⟨fun _ => T_P_missesNothing_28 ?_, fun h => absurd (h1.symm.trans h) (by decide)⟩
    have hh := hp σ sX.rf (Or.inr ⟨h1, h2⟩) rfl rfl
    rcases h2 with ⟨h3, h4⟩ | ⟨h3, h4⟩
    · rw [h3]; exact ⟨nar_b1, hh.1 h4⟩
    · rw [h3]; exact ⟨nar_b0, hh.2 h4⟩
theorem k_losesNothing {post : Int32 → gs_S → Prop} (hR : okR K W tb) (hC : cR σ K W tb) (hF : cF σ K W tb) (hc : cSj σ K W tb) (hi : cIj σ K W tb) (hp : ∀ σ', fPr σ σ' → cSj σ' K W tb → cIj σ' K W tb → (ij K W tb → post 1 σ') ∧ (¬ ij K W tb → post 0 σ')) : gM l v lyC 42 me_P_losesNothing (n + 5) [.ref (v.2.2 14)] σ (qI v lyC 42 post) := by
  refine E_P_losesNothing (T_P_losesNothing_0 ?_)
  rcases hi with h0 | ⟨h1, h2⟩
  · refine ⟨fun h => absurd h0 h, fun _ => ?_⟩
    have hX0 : fPr σ (gs_pI σ 14 5 1) := sX.rf.I (by omega)
    have fin0 : ∀ τ, fPr σ τ → cSj τ K W tb → τ.1 14 5 = 1 → ¬ ij K W tb → G_P_losesNothing_31 l v (n + 4) post τ := fun τ hX hS h5 hn => T_P_losesNothing_31 (T_P_losesNothing_32 ⟨⟨nar_b0, rfl⟩, T_P_losesNothing_35 (by
      rw [pI_eq]
      refine ⟨nar_b0, (hp _ (hX.I (by omega)) ?_ (Or.inr ⟨by rw [pI_j (by decide)]; exact h5, Or.inr ⟨pI_eq, hn⟩⟩)).2 hn⟩
      unfold cSj
      rw [pI_j (by decide), pI_j (by decide)]
      exact hS)⟩)
    refine k_missesNothing hR (hC.kept hX0 (fun _ => by omega) (fun _ => by omega)) (hF.kept hX0 (fun _ => by omega)) (by unfold cSj; rw [pI_j (by decide), pI_j (by decide)]; exact hc) (fun τ hX hS h5 h6 => ⟨fun hs => br_f (by decide) ?_, fun hs => br_t rfl (fin0 τ (hX0.tr hX) hS (by rw [h5, pI_eq]) (fun q => hs q.1))⟩)
    have hX1 := hX0.tr hX
    refine k_stayApart hR (hC.kept hX1 (fun _ => by omega) (fun _ => by omega)) (hF.kept hX1 (fun _ => by omega)) (fun τ2 hX2 => ?_)
    have hX3 : fPr σ τ2 := hX1.tr (hX2.mono (fun k j h => by omega))
    have hS2 : cSj τ2 K W tb := by
      unfold cSj
      rw [(hX2 14 3 (by omega)).1, (hX2 14 4 (by omega)).1]
      exact hS
    have e5 : τ2.1 14 5 = 1 := by rw [(hX2 14 5 (by omega)).1, h5, pI_eq]
    refine ⟨fun hl => br_t' (by decide) (fin0 τ2 hX3 hS2 e5 (fun q => q.2 hl)), fun hl => br_f' rfl (T_P_losesNothing_32 ⟨⟨nar_b1, rfl⟩, T_P_losesNothing_35 ?_⟩)⟩
    rw [pI_eq]
    refine ⟨nar_b1, (hp _ (hX3.I (by omega)) ?_ (Or.inr ⟨by rw [pI_j (by decide)]; exact e5, Or.inl ⟨pI_eq, hs, hl⟩⟩)).1 ⟨hs, hl⟩⟩
    unfold cSj
    rw [pI_j (by decide), pI_j (by decide)]
    exact hS2
  · refine ⟨fun _ => T_P_losesNothing_35 ?_, fun h => absurd (h1.symm.trans h) (by decide)⟩
    have hh := hp σ sX.rf hc (Or.inr ⟨h1, h2⟩)
    rcases h2 with ⟨h3, h4⟩ | ⟨h3, h4⟩
    · rw [h3]; exact ⟨nar_b1, hh.1 h4⟩
    · rw [h3]; exact ⟨nar_b0, hh.2 h4⟩
end K15
