/-! anyPair, makesAll; surjective and injective with a rule. -/
def two (K W : Nat) (tb : Nat → Nat) (S : Nat → Nat → Prop) : Prop := ∀ x y, S x y → x < K ^ (W - 1) ∧ y < K ^ (W - 1) ∧ x ≠ y ∧ (∃ x' y', go2 K W tb x y x' y' ∧ (x' = y' ∨ S x' y')) ∧ (∃ x' y', go2 K W tb x' y' x y ∧ (x' = y' ∨ S x' y'))
section K17
variable {l : Launch} {v : gs_V} {n : Nat} {σ : gs_S} {K W : Nat} {tb : Nat → Nat}
theorem k_anyPair {post : Int32 → gs_S → Prop} (hR : okR K W tb) (hC : mR σ K W tb) (hp : ∀ σ', sX (fun k _ => k = 19) σ σ' → (lR K W tb → post 1 σ') ∧ (¬ lR K W tb → post 0 σ')) : gM l v lyM 33 me_M_anyPair (n + 2) [.ref (v.2.2 0)] σ (qI v lyM 33 post) := by
  have hN := pw_le1 hR.2.1 hR.2.2.2.1
  have hNp := pw_pos (W := W - 1) hR.1
  have fin : ∀ τ, sX (fun k _ => k = 19) σ τ → (∀ p, p < 4096 → ¬ τ.1 19 p = 0 → p / 64 ≠ p % 64 ∧ p / 64 < K ^ (W - 1) ∧ p % 64 < K ^ (W - 1)) → (∀ S, two K W tb S → ∀ x y, S x y → mk9 τ x y) → (∀ x y, x < K ^ (W - 1) → y < K ^ (W - 1) → mk9 τ x y → (∃ x' y', go2 K W tb x y x' y' ∧ (x' = y' ∨ mk9 τ x' y')) ∧ (∃ x' y', go2 K W tb x' y' x y ∧ (x' = y' ∨ mk9 τ x' y'))) → G_M_anyPair_154 l v (n + 1) post τ 0 0 := by
    intro τ hX h1 h2 h3
    have iff : lR K W tb ↔ ∃ p, p < 4096 ∧ ¬ τ.1 19 p = 0 := by
      constructor
      · rintro ⟨S, ⟨x, y, hxy⟩, hS⟩
        have := hS x y hxy
        exact ⟨64 * x + y, by omega, h2 S hS x y hxy⟩
      · rintro ⟨p, hp', hb⟩
        have hq := h1 p hp' hb
        refine ⟨fun a y => a < K ^ (W - 1) ∧ y < K ^ (W - 1) ∧ mk9 τ a y, ⟨p / 64, p % 64, hq.2.1, hq.2.2, by unfold mk9; rw [Nat.div_add_mod]; exact hb⟩, fun a y ⟨b1, b2, b3⟩ => ?_⟩
        have q := h1 (64 * a + y) (by omega) b3
        obtain ⟨⟨x', y', q2, q3⟩, x2, y2, q4, q5⟩ := h3 a y b1 b2 b3
        have ql := go2_lt hR q2
        have ql2 := go2_lt hR q4
        exact ⟨b1, b2, by omega, ⟨x', y', q2, q3.imp id (fun z => ⟨ql.2.2.1, ql.2.2.2, z⟩)⟩, x2, y2, q4, q5.imp id (fun z => ⟨ql2.1, ql2.2.1, z⟩)⟩
    have L : ∀ p, p ≤ 4096 → ∀ x2 : Int32, ((x2 = 1 ∧ ∃ q, q < p ∧ ¬ τ.1 19 q = 0) ∨ (x2 = 0 ∧ ∀ q, q < p → τ.1 19 q = 0)) → G_M_anyPair_154 l v (n + 1) post τ x2 (nI p) := by
      refine dn ?_ ?_
      · intro x2 h
        refine T_M_anyPair_154 (br_t (show (4096 : Int32) ≤ nI 4096 by decide) ?_)
        rcases h with ⟨e, h⟩ | ⟨e, h⟩
        · subst e; exact ⟨nar_b1, (hp τ hX).1 (iff.mpr h)⟩
        · subst e; exact ⟨nar_b0, (hp τ hX).2 (fun q => by obtain ⟨p, q1, q2⟩ := iff.mp q; exact q2 (h p q1))⟩
      · intro p hp' ih x2 h
        refine T_M_anyPair_154 (br_f (nI_ge (a := p) (b := 4096) hp' (by omega)) ?_)
        rw [nI_clamp (by omega)]
        rcases h with ⟨e, q, hq, h⟩ | ⟨e, h⟩
        · subst e
          exact br_t' (by decide) (T_M_anyPair_174 (T_M_anyPair_179 (by rw [nI_1]; exact ih 1 (Or.inl ⟨rfl, q, by omega, h⟩))))
        · subst e
          refine br_f' rfl ⟨vp_in_nI (by omega) (by decide), fun h0 => T_M_anyPair_179 ?_, fun h0 => T_M_anyPair_174 (T_M_anyPair_179 ?_)⟩
          · rw [nI_1]
            refine ih 0 (Or.inr ⟨rfl, fun q hq => ?_⟩)
            by_cases e : q = p
            · rw [e]; exact h0
            · exact h q (by omega)
          · rw [nI_1]; exact ih 1 (Or.inl ⟨rfl, p, by omega, h0⟩)
    exact L 0 (Nat.zero_le _) 0 (Or.inr ⟨rfl, fun q h => absurd h (Nat.not_lt_zero q)⟩)
  have L61 : ∀ f τ x1, sX (fun k _ => k = 19) σ τ → cn19 τ ≤ f → (∀ p, p < 4096 → ¬ τ.1 19 p = 0 → p / 64 ≠ p % 64 ∧ p / 64 < K ^ (W - 1) ∧ p % 64 < K ^ (W - 1)) → (∀ S, two K W tb S → ∀ x y, S x y → mk9 τ x y) → (x1 = 1 ∨ (x1 = 0 ∧ ∀ x y, x < K ^ (W - 1) → y < K ^ (W - 1) → mk9 τ x y → (∃ x' y', go2 K W tb x y x' y' ∧ (x' = y' ∨ mk9 τ x' y')) ∧ (∃ x' y', go2 K W tb x' y' x y ∧ (x' = y' ∨ mk9 τ x' y')))) → G_M_anyPair_61 l v (n + 1) post τ x1 := by
    intro f
    induction f with
    | zero =>
      intro τ x1 hX hc h1 h2 h4
      have none : ∀ p, p < 4096 → τ.1 19 p = 0 := fun p hp' => by
        apply Classical.byContradiction
        intro h0
        have hlt : cq (fun _ => false) 4096 < cn19 τ := cq_lt 4096 (fun _ _ h => by cases h) ⟨p, hp', rfl, decide_eq_true h0⟩
        omega
      have hfin := fin τ hX h1 h2 (fun x y hx hy hm => absurd (none (64 * x + y) (by omega)) hm)
      rcases h4 with e | ⟨e, h4⟩
      · subst e
        refine T_M_anyPair_61 (br_f (by decide) ?_)
        have L69 : ∀ x, x ≤ K ^ (W - 1) → G_M_anyPair_69 l v (n + 1) post τ 0 (nI x) := by
          refine dn ?_ ?_
          · refine T_M_anyPair_69 (br_t (by rw [(hX 0 4 (by omega)).1, hC.2.2.1]; exact nI_le (Nat.le_refl _) (by omega)) ?_)
            exact T_M_anyPair_61 (br_t rfl hfin)
          · intro x hx ih
            refine T_M_anyPair_69 (br_f (by rw [(hX 0 4 (by omega)).1, hC.2.2.1]; exact nI_ge hx (by omega)) ?_)
            refine dn0 (N := K ^ (W - 1)) (P := fun y => G_M_anyPair_79 l v (n + 1) post τ 0 (nI x) (nI y)) ?_ ?_
            · refine T_M_anyPair_79 (br_t (by rw [(hX 0 4 (by omega)).1, hC.2.2.1]; exact nI_le (Nat.le_refl _) (by omega)) ?_)
              rw [nI_1]; exact ih
            · intro y hy ih2
              have e64 : (64 : Int32) * nI x + nI y = nI (64 * x + y) := by
                show nI 64 * _ + _ = _
                rw [pk_mul, nI_add]
              refine T_M_anyPair_79 (br_f (by rw [(hX 0 4 (by omega)).1, hC.2.2.1]; exact nI_ge hy (by omega)) ?_)
              rw [e64, nI_clamp (by omega)]
              exact ⟨vp_in_nI (by omega) (by decide), br_t (none _ (by omega)) (T_M_anyPair_135 (by rw [nI_1]; exact ih2))⟩
        exact L69 0 (Nat.zero_le _)
      · subst e
        exact T_M_anyPair_61 (br_t rfl hfin)
    | succ f ihf =>
      intro τ x1 hX hc h1 h2 h4
      rcases h4 with e | ⟨e, h4⟩
      · subst e
        refine T_M_anyPair_61 (br_f (by decide) ?_)
        have L69 : ∀ x, x ≤ K ^ (W - 1) → ∀ τ x1, sX (fun k _ => k = 19) σ τ → (∀ p, p < 4096 → ¬ τ.1 19 p = 0 → p / 64 ≠ p % 64 ∧ p / 64 < K ^ (W - 1) ∧ p % 64 < K ^ (W - 1)) → (∀ S, two K W tb S → ∀ x y, S x y → mk9 τ x y) → ((x1 = 1 ∧ cn19 τ ≤ f) ∨ (x1 = 0 ∧ cn19 τ ≤ f + 1 ∧ ∀ x' y', x' < x → y' < K ^ (W - 1) → mk9 τ x' y' → (∃ a b, go2 K W tb x' y' a b ∧ (a = b ∨ mk9 τ a b)) ∧ (∃ a b, go2 K W tb a b x' y' ∧ (a = b ∨ mk9 τ a b)))) → G_M_anyPair_69 l v (n + 1) post τ x1 (nI x) := by
          refine dn ?_ ?_
          · intro τ x1 hX h1 h2 h4
            refine T_M_anyPair_69 (br_t (by rw [(hX 0 4 (by omega)).1, hC.2.2.1]; exact nI_le (Nat.le_refl _) (by omega)) ?_)
            rcases h4 with ⟨e, h4⟩ | ⟨e, h4, h5⟩
            · exact ihf τ x1 hX h4 h1 h2 (Or.inl e)
            · subst e
              exact T_M_anyPair_61 (br_t rfl (fin τ hX h1 h2 h5))
          · intro x hx ih τ x1 hX h1 h2 h4
            refine T_M_anyPair_69 (br_f (by rw [(hX 0 4 (by omega)).1, hC.2.2.1]; exact nI_ge hx (by omega)) ?_)
            have L79 : ∀ y, y ≤ K ^ (W - 1) → ∀ τ x1, sX (fun k _ => k = 19) σ τ → (∀ p, p < 4096 → ¬ τ.1 19 p = 0 → p / 64 ≠ p % 64 ∧ p / 64 < K ^ (W - 1) ∧ p % 64 < K ^ (W - 1)) → (∀ S, two K W tb S → ∀ x y, S x y → mk9 τ x y) → ((x1 = 1 ∧ cn19 τ ≤ f) ∨ (x1 = 0 ∧ cn19 τ ≤ f + 1 ∧ ∀ x' y', x' < x ∨ (x' = x ∧ y' < y) → y' < K ^ (W - 1) → mk9 τ x' y' → (∃ a b, go2 K W tb x' y' a b ∧ (a = b ∨ mk9 τ a b)) ∧ (∃ a b, go2 K W tb a b x' y' ∧ (a = b ∨ mk9 τ a b)))) → G_M_anyPair_79 l v (n + 1) post τ x1 (nI x) (nI y) := by
              refine dn ?_ ?_
              · intro τ x1 hX h1 h2 h4
                refine T_M_anyPair_79 (br_t (by rw [(hX 0 4 (by omega)).1, hC.2.2.1]; exact nI_le (Nat.le_refl _) (by omega)) ?_)
                rw [nI_1]
                refine ih τ x1 hX h1 h2 ?_
                rcases h4 with h4 | ⟨e, h4, h5⟩
                · exact Or.inl h4
                · exact Or.inr ⟨e, h4, fun x' y' g1 g2 => h5 x' y' (by omega) g2⟩
              · intro y hy ih2 τ x1 hX h1 h2 h4
                have hCτ : mR τ K W tb := hC.kept hX (fun _ _ => by omega) (fun _ => by omega)
                have e64 : (64 : Int32) * nI x + nI y = nI (64 * x + y) := by
                  show nI 64 * _ + _ = _
                  rw [pk_mul, nI_add]
                have skip : (mk9 τ x y → (∃ a b, go2 K W tb x y a b ∧ (a = b ∨ mk9 τ a b)) ∧ (∃ a b, go2 K W tb a b x y ∧ (a = b ∨ mk9 τ a b))) → G_M_anyPair_135 l v (n + 1) post τ x1 (nI x) (nI y) := fun hsk => T_M_anyPair_135 (by
                  rw [nI_1]
                  refine ih2 τ x1 hX h1 h2 ?_
                  rcases h4 with h4 | ⟨e, h4, h5⟩
                  · exact Or.inl h4
                  · refine Or.inr ⟨e, h4, fun x' y' g1 g2 g3 => ?_⟩
                    by_cases q : x' = x ∧ y' = y
                    · obtain ⟨q1, q2⟩ := q
                      subst q1 q2
                      exact hsk g3
                    · exact h5 x' y' (by omega) g2 g3)
                refine T_M_anyPair_79 (br_f (by rw [(hX 0 4 (by omega)).1, hC.2.2.1]; exact nI_ge hy (by omega)) ?_)
                rw [e64, nI_clamp (by omega)]
                refine ⟨vp_in_nI (by omega) (by decide), fun h => skip (fun q => absurd h q), fun h => ?_⟩
                have drop : ¬ ((∃ a b, go2 K W tb x y a b ∧ (a = b ∨ mk9 τ a b)) ∧ (∃ a b, go2 K W tb a b x y ∧ (a = b ∨ mk9 τ a b))) → G_M_anyPair_121 l v (n + 1) post τ (nI x) (nI y) := fun hno => by
                  refine T_M_anyPair_121 ?_
                  rw [e64, nI_clamp (by omega)]
                  refine ⟨vp_in_nI (by omega) (by decide), T_M_anyPair_135 ?_⟩
                  rw [nI_1]
                  have sub : ∀ p, ¬ (gs_pI τ 19 (64 * x + y) 0).1 19 p = 0 → ¬ τ.1 19 p = 0 := fun p hp0 h0 => hp0 (by
                    by_cases q : p = 64 * x + y
                    · rw [q, pI_eq]
                    · rw [pI_j q]; exact h0)
                  refine ih2 _ 1 (hX.I rfl) (fun p hp' hb => h1 p hp' (sub p hb)) (fun S hS x' y' hxy => ?_) (Or.inl ⟨rfl, ?_⟩)
                  · obtain ⟨q1, q2, q3, ⟨a, b, q4, q5⟩, a2, b2, q6, q7⟩ := hS x' y' hxy
                    by_cases q : x' = x ∧ y' = y
                    · obtain ⟨qa, qb⟩ := q
                      subst qa qb
                      exact absurd ⟨⟨a, b, q4, q5.imp id (fun z => h2 S hS a b z)⟩, a2, b2, q6, q7.imp id (fun z => h2 S hS a2 b2 z)⟩ hno
                    · unfold mk9
                      rw [pI_j (by omega)]
                      exact h2 S hS x' y' hxy
                  · have hlt : cn19 (gs_pI τ 19 (64 * x + y) 0) < cn19 τ := by
                      refine cq_lt 4096 (fun i hi hb => decide_eq_true (sub i (of_decide_eq_true hb))) ⟨64 * x + y, by omega, decide_eq_false (fun q => q pI_eq), decide_eq_true h⟩
                    rcases h4 with ⟨_, h4⟩ | ⟨_, h4, _⟩ <;> omega
                have one : ¬ (1 : Int32) = 0 := by decide
                refine k_leadsOn (z := 1) hR hCτ hx hy (fun hl => br_f (by decide) (k_comesFrom hR hCτ hx hy (fun hcf => br_t' (by decide) (skip (fun _ => ⟨?_, hcf⟩))) (fun hcf => br_f' rfl (drop (fun q => hcf q.2))))) (fun hl => br_t rfl (drop (fun q => hl ?_)))
                · obtain ⟨a, b, g1, g2⟩ := hl
                  exact ⟨a, b, g1, g2.imp id (fun z => z.2)⟩
                · obtain ⟨a, b, g1, g2⟩ := q.1
                  exact ⟨a, b, g1, g2.imp id (fun z => ⟨one, z⟩)⟩
            refine L79 0 (Nat.zero_le _) τ x1 hX h1 h2 ?_
            rcases h4 with h4 | ⟨e, h4, h5⟩
            · exact Or.inl h4
            · exact Or.inr ⟨e, h4, fun x' y' g1 g2 => h5 x' y' (by omega) g2⟩
        exact L69 0 (Nat.zero_le _) τ 0 hX h1 h2 (Or.inr ⟨rfl, hc, fun x' y' h => absurd h (Nat.not_lt_zero x')⟩)
      · subst e
        exact T_M_anyPair_61 (br_t rfl (fin τ hX h1 h2 h4))
  have L2 : ∀ p, p ≤ 4096 → ∀ τ, sX (fun k _ => k = 19) σ τ → (∀ q, q < p → (¬ τ.1 19 q = 0 ↔ q / 64 ≠ q % 64 ∧ q / 64 < K ^ (W - 1) ∧ q % 64 < K ^ (W - 1))) → G_M_anyPair_2 l v (n + 1) post τ (nI p) := by
    refine dn ?_ ?_
    · intro τ hX h1
      refine T_M_anyPair_2 (br_t (show (4096 : Int32) ≤ nI 4096 by decide) ?_)
      refine L61 4096 τ 1 hX (cn19_le τ) (fun p hp' hb => (h1 p hp').mp hb) (fun S hS x y hxy => ?_) (Or.inl rfl)
      obtain ⟨q1, q2, q3, -⟩ := hS x y hxy
      exact (h1 (64 * x + y) (by omega)).mpr (by omega)
    · intro p hp' ih τ hX h1
      have e1 : nI p / 64 = nI (p / 64) := pk_div (d := 64) (by omega) (by decide) (by decide)
      have e2 : jR (nI p) 64 = nI (p % 64) := jR_n (d := 64) (by omega) (by decide) (by decide)
      have go : ∀ x : Int32, (x = 0 ∨ x = 1) → (¬ x = 0 ↔ p / 64 ≠ p % 64 ∧ p / 64 < K ^ (W - 1) ∧ p % 64 < K ^ (W - 1)) → G_M_anyPair_52 l v (n + 1) post τ (nI p) x (nI p) := fun x hx hi => by
        refine T_M_anyPair_52 ⟨vp_in_nI (by omega) (by decide), ?_⟩
        have en : vp_nar .boolean x = x := by rcases hx with e | e <;> rw [e] <;> rfl
        rw [nI_clamp (by omega), nI_1, en]
        refine ih _ (hX.I rfl) (fun q hq => ?_)
        by_cases e : q = p
        · rw [e, pI_eq]; exact hi
        · rw [pI_j e]; exact h1 q (by omega)
      have zero : ¬ (p / 64 ≠ p % 64 ∧ p / 64 < K ^ (W - 1) ∧ p % 64 < K ^ (W - 1)) → G_M_anyPair_51 l v (n + 1) post τ (nI p) (nI p) := fun hno => T_M_anyPair_51 (go 0 (Or.inl rfl) ⟨fun q => absurd rfl q, fun q => absurd q hno⟩)
      have hq1 : p / 64 < 64 := by omega
      have hq2 : p % 64 < 64 := by omega
      refine T_M_anyPair_2 (br_f (nI_ge (a := p) (b := 4096) hp' (by omega)) ?_)
      rw [e1, e2, (hX 0 4 (by omega)).1, hC.2.2.1]
      refine ⟨fun h => zero (fun q => q.1 ((nI_nat (by omega) (by omega)).mp h)), fun h => ?_⟩
      have hne : p / 64 ≠ p % 64 := fun q => h (by rw [q])
      by_cases c1 : p / 64 < K ^ (W - 1)
      · refine br_f (nI_ge c1 (by omega)) ?_
        by_cases c2 : p % 64 < K ^ (W - 1)
        · exact br_f (nI_ge c2 (by omega)) (go 1 (Or.inr rfl) ⟨fun _ => ⟨hne, c1, c2⟩, fun _ => by decide⟩)
        · exact br_t (nI_le (by omega) (by omega)) (zero (fun q => c2 q.2.2))
      · exact br_t (nI_le (by omega) (by omega)) (zero (fun q => c1 q.2.1))
  exact E_M_anyPair (T_M_anyPair_0 (L2 0 (Nat.zero_le _) σ sX.rf (fun q h => absurd h (Nat.not_lt_zero q))))
/-- width 1 -/
def sk (tb : Nat → Nat) : Nat → Int32
  | 0 => 0
  | i + 1 => sk tb i ||| jSI 1 (nI (tb i))
theorem dD_1 (hR : okR K 1 tb) : dD K 1 tb ↔ ∃ u w, u < w ∧ w < K ∧ tb u = tb w := by
  have hK2 := hR.1
  constructor
  · rintro ⟨x, y, hM, -⟩
    exact hM (fun _ _ => ∃ u w, u < w ∧ w < K ∧ tb u = tb w) (fun u w a1 a2 _ a4 => ⟨u, w, a1, by rw [Nat.pow_one] at a2; exact a2, a4⟩) (fun _ _ _ _ h _ => h)
  · rintro ⟨u, w, h1, h2, h3⟩
    have hu : u / K = 0 := Nat.div_eq_of_lt (by omega)
    have hw : w / K = 0 := Nat.div_eq_of_lt h2
    have hM : Mt K 1 tb (u % K ^ (1 - 1)) (w % K ^ (1 - 1)) := Mt.part h1 (by rw [Nat.pow_one]; exact h2) (hu.trans hw.symm) h3
    have e : ∀ z, z % K ^ (1 - 1) = 0 := fun z => by
      show z % K ^ 0 = 0
      rw [Nat.pow_zero, Nat.mod_one]
    rw [e, e] at hM
    exact ⟨0, 0, hM, 0, 0, 0, by rw [Nat.pow_one]; omega, by rw [Nat.pow_one]; omega, Nat.zero_div _, Nat.zero_div _, rfl, e 0, e 0⟩
theorem lF_1 : ¬ lF K 1 tb := by
  rintro ⟨S, ⟨x, y, hxy⟩, hS⟩
  have h := hS x y hxy
  have e : K ^ (1 - 1) = 1 := rfl
  rw [e] at h
  omega
theorem sk_2 : ∀ a, a < 2 → ∀ b, b < 2 → ((0 ||| jSI 1 (nI a)) ||| jSI 1 (nI b) = jSI 1 (nI 2) - 1 ↔ a ≠ b) := by decide +kernel
theorem sk_3 : ∀ a, a < 3 → ∀ b, b < 3 → ∀ c, c < 3 → (((0 ||| jSI 1 (nI a)) ||| jSI 1 (nI b)) ||| jSI 1 (nI c) = jSI 1 (nI 3) - 1 ↔ a ≠ b ∧ a ≠ c ∧ b ≠ c) := by decide +kernel
theorem sk_4f : ∀ a b c d : Fin 4, decide ((((0 ||| jSI 1 (nI a.val)) ||| jSI 1 (nI b.val)) ||| jSI 1 (nI c.val)) ||| jSI 1 (nI d.val) = jSI 1 (nI 4) - 1) = decide (a.val ≠ b.val ∧ a.val ≠ c.val ∧ b.val ≠ c.val ∧ a.val ≠ d.val ∧ b.val ≠ d.val ∧ c.val ≠ d.val) := by decide +kernel
theorem sk_4 (a : Nat) (ha : a < 4) (b : Nat) (hb : b < 4) (c : Nat) (hc : c < 4) (d : Nat) (hd : d < 4) : (((0 ||| jSI 1 (nI a)) ||| jSI 1 (nI b)) ||| jSI 1 (nI c)) ||| jSI 1 (nI d) = jSI 1 (nI 4) - 1 ↔ a ≠ b ∧ a ≠ c ∧ b ≠ c ∧ a ≠ d ∧ b ≠ d ∧ c ≠ d := by
  have h := sk_4f ⟨a, ha⟩ ⟨b, hb⟩ ⟨c, hc⟩ ⟨d, hd⟩
  exact decide_eq_decide.mp h
theorem sk_ok (hR : okR K 1 tb) : sk tb K = jSI 1 (nI K) - 1 ↔ ¬ dD K 1 tb := by
  rw [dD_1 hR]
  have ht : ∀ j, j < K → tb j < K := fun j hj => hR.2.2.2.2 j (by rw [Nat.pow_one]; exact hj)
  have hK : K = 2 ∨ K = 3 ∨ K = 4 := by have := hR.1; have := hR.2.1; omega
  rcases hK with e | e | e
  · subst e
    have q := sk_2 (tb 0) (ht 0 (by decide)) (tb 1) (ht 1 (by decide))
    refine Iff.trans q ⟨?_, ?_⟩
    · rintro h ⟨u, w, h1, h2, h3⟩
      have : u = 0 ∧ w = 1 := by omega
      rw [this.1, this.2] at h3; exact h h3
    · intro h e
      exact h ⟨0, 1, by decide, by decide, e⟩
  · subst e
    have q := sk_3 (tb 0) (ht 0 (by decide)) (tb 1) (ht 1 (by decide)) (tb 2) (ht 2 (by decide))
    refine Iff.trans q ⟨?_, ?_⟩
    · rintro ⟨a, b, c⟩ ⟨u, w, h1, h2, h3⟩
      have : (u = 0 ∧ w = 1) ∨ (u = 0 ∧ w = 2) ∨ (u = 1 ∧ w = 2) := by omega
      rcases this with z | z | z <;> rw [z.1, z.2] at h3
      · exact a h3
      · exact b h3
      · exact c h3
    · intro h
      exact ⟨fun e => h ⟨0, 1, by decide, by decide, e⟩, fun e => h ⟨0, 2, by decide, by decide, e⟩, fun e => h ⟨1, 2, by decide, by decide, e⟩⟩
  · subst e
    have q := sk_4 (tb 0) (ht 0 (by decide)) (tb 1) (ht 1 (by decide)) (tb 2) (ht 2 (by decide)) (tb 3) (ht 3 (by decide))
    refine Iff.trans q ⟨?_, ?_⟩
    · rintro ⟨a, b, c, d, e, f⟩ ⟨u, w, h1, h2, h3⟩
      have : (u = 0 ∧ w = 1) ∨ (u = 0 ∧ w = 2) ∨ (u = 1 ∧ w = 2) ∨ (u = 0 ∧ w = 3) ∨ (u = 1 ∧ w = 3) ∨ (u = 2 ∧ w = 3) := by omega
      rcases this with z | z | z | z | z | z <;> rw [z.1, z.2] at h3
      · exact a h3
      · exact b h3
      · exact c h3
      · exact d h3
      · exact e h3
      · exact f h3
    · intro h
      exact ⟨fun e => h ⟨0, 1, by decide, by decide, e⟩, fun e => h ⟨0, 2, by decide, by decide, e⟩, fun e => h ⟨1, 2, by decide, by decide, e⟩, fun e => h ⟨0, 3, by decide, by decide, e⟩, fun e => h ⟨1, 3, by decide, by decide, e⟩, fun e => h ⟨2, 3, by decide, by decide, e⟩⟩
theorem k_makesAll {post : Int32 → gs_S → Prop} (hR : okR K 1 tb) (hC : mR σ K 1 tb) (hp1 : ¬ dD K 1 tb → post 1 σ) (hp0 : dD K 1 tb → post 0 σ) : gM l v lyM 33 me_M_makesAll (n + 1) [.ref (v.2.2 0)] σ (qI v lyM 33 post) := by
  have hK := hR.2.1
  have e5 : σ.1 0 5 = nI K := by rw [hC.2.2.2.1, Nat.pow_one]
  refine E_M_makesAll (T_M_makesAll_0 ?_)
  refine dn0 (N := K) (P := fun i => G_M_makesAll_4 l v n post σ (sk tb i) (nI i)) ?_ ?_
  · refine T_M_makesAll_4 (br_t (by rw [e5]; exact nI_le (Nat.le_refl K) (by omega)) ?_)
    rw [hC.1, sk_ok hR]
    exact ⟨fun h => T_M_makesAll_46 ⟨nar_b0, hp0 (Classical.not_not.mp h)⟩, fun h => T_M_makesAll_46 ⟨nar_b1, hp1 h⟩⟩
  · intro i hi ih
    refine T_M_makesAll_4 (br_f (by rw [e5]; exact nI_ge hi (by omega)) ⟨vp_in_nI (by omega) (by decide), ?_⟩)
    rw [nI_clamp (by omega), nI_1, hC.2.2.2.2 i (by rw [Nat.pow_one]; exact hi)]
    exact ih
/-- the reference's caches of the two answers -/
def mSj (σ : gs_S) (K W : Nat) (tb : Nat → Nat) : Prop := σ.1 0 28 = 0 ∨ (σ.1 0 28 = 2 ∧ sj K W tb) ∨ (σ.1 0 28 = 1 ∧ ¬ sj K W tb)
def mIj (σ : gs_S) (K W : Nat) (tb : Nat → Nat) : Prop := σ.1 0 29 = 0 ∨ (σ.1 0 29 = 2 ∧ ij K W tb) ∨ (σ.1 0 29 = 1 ∧ ¬ ij K W tb)
theorem mR.k0 (hR : okR K W tb) (h : mR σ K W tb) : ¬ σ.1 0 2 = 0 := by
  rw [h.1]
  have h1 := hR.1
  have h2 := hR.2.1
  exact nI_ne0 (by omega) (by omega)
theorem k_M_surjective {post : Int32 → gs_S → Prop} (hR : okR K W tb) (hC : mR σ K W tb) (hc : mSj σ K W tb) (hp : ∀ σ', sX (fun k j => k = 19 ∨ (k = 0 ∧ j = 28)) σ σ' → mSj σ' K W tb → (sj K W tb → post 1 σ') ∧ (¬ sj K W tb → post 0 σ')) : gM l v lyM 33 me_M_surjective (n + 3) [.ref (v.2.2 0)] σ (qI v lyM 33 post) := by
  have hW := hR.2.2.1
  have hW4 := hR.2.2.2.1
  refine E_M_surjective (T_M_surjective_0 ⟨fun _ => ?_, fun h => absurd h (hC.k0 hR)⟩)
  rcases hc with h0 | h
  · refine br_f' h0 ?_
    have yes : ∀ τ, sX (fun k j => k = 19 ∨ (k = 0 ∧ j = 28)) σ τ → sj K W tb → G_M_surjective_43 l v (n + 2) post τ 1 := fun τ hX hs => T_M_surjective_43 (br_f (by decide) (T_M_surjective_54 (T_M_surjective_57 (by
      rw [pI_eq]
      exact (hp _ (hX.I (by omega)) (Or.inr (Or.inl ⟨pI_eq, hs⟩))).1 hs))))
    have noo : ∀ τ, sX (fun k j => k = 19 ∨ (k = 0 ∧ j = 28)) σ τ → ¬ sj K W tb → G_M_surjective_43 l v (n + 2) post τ 0 := fun τ hX hs => T_M_surjective_43 (br_t rfl (T_M_surjective_54 (T_M_surjective_57 (by
      rw [pI_eq]
      exact (hp _ (hX.I (by omega)) (Or.inr (Or.inr ⟨pI_eq, hs⟩))).2 hs))))
    rw [hC.2.1]
    refine ⟨fun h1 => ?_, fun h1 => ?_⟩
    · have hW2 : 2 ≤ W := by
        rcases Nat.lt_or_ge W 2 with q | q
        · exfalso; apply h1; rw [show W = 1 by omega]; rfl
        · exact q
      refine k_losesSomewhere hR hW2 hC (fun τ hX => ⟨fun hD => br_t' (by decide) (noo τ (hX.mono (fun k j h => Or.inl h)) (fun q => q hD)), fun hD => br_f' rfl (yes τ (hX.mono (fun k j h => Or.inl h)) hD)⟩)
    · have e : W = 1 := (nI_nat (b := 1) (by omega) (by omega)).mp h1
      subst e
      exact k_makesAll hR hC (fun h => yes σ sX.rf h) (fun h => noo σ sX.rf (fun q => q h))
  · have hh := hp σ sX.rf (Or.inr h)
    rcases h with ⟨h1, h2⟩ | ⟨h1, h2⟩
    · refine br_t' (by rw [h1]; decide) (T_M_surjective_57 ?_)
      rw [h1]; exact hh.1 h2
    · refine br_t' (by rw [h1]; decide) (T_M_surjective_57 ?_)
      rw [h1]; exact hh.2 h2
theorem k_M_injective {post : Int32 → gs_S → Prop} (hR : okR K W tb) (hC : mR σ K W tb) (hc : mIj σ K W tb) (hp : ∀ σ', sX (fun k j => k = 19 ∨ (k = 0 ∧ j = 29)) σ σ' → mIj σ' K W tb → (ij K W tb → post 1 σ') ∧ (¬ ij K W tb → post 0 σ')) : gM l v lyM 33 me_M_injective (n + 3) [.ref (v.2.2 0)] σ (qI v lyM 33 post) := by
  have hW := hR.2.2.1
  have hW4 := hR.2.2.2.1
  refine E_M_injective (T_M_injective_0 ⟨fun _ => ?_, fun h => absurd h (hC.k0 hR)⟩)
  rcases hc with h0 | h
  · refine br_f' h0 ?_
    have yes : ∀ τ, sX (fun k j => k = 19 ∨ (k = 0 ∧ j = 29)) σ τ → ij K W tb → G_M_injective_43 l v (n + 2) post τ 1 := fun τ hX hs => T_M_injective_43 (br_f (by decide) (T_M_injective_54 (T_M_injective_57 (by
      rw [pI_eq]
      exact (hp _ (hX.I (by omega)) (Or.inr (Or.inl ⟨pI_eq, hs⟩))).1 hs))))
    have noo : ∀ τ, sX (fun k j => k = 19 ∨ (k = 0 ∧ j = 29)) σ τ → ¬ ij K W tb → G_M_injective_43 l v (n + 2) post τ 0 := fun τ hX hs => T_M_injective_43 (br_t rfl (T_M_injective_54 (T_M_injective_57 (by
      rw [pI_eq]
      exact (hp _ (hX.I (by omega)) (Or.inr (Or.inr ⟨pI_eq, hs⟩))).2 hs))))
    rw [hC.2.1]
    refine ⟨fun h1 => ?_, fun h1 => ?_⟩
    · have hW2 : 2 ≤ W := by
        rcases Nat.lt_or_ge W 2 with q | q
        · exfalso; apply h1; rw [show W = 1 by omega]; rfl
        · exact q
      refine k_anyPair hR hC (fun τ hX => ⟨fun hD => br_t' (by decide) (noo τ (hX.mono (fun k j h => Or.inl h)) (fun q => ?_)), fun hD => br_f' rfl (yes τ (hX.mono (fun k j h => Or.inl h)) ⟨fun q => hD ((lR_iff hR hW2).mpr (Or.inl q)), fun q => hD ((lR_iff hR hW2).mpr (Or.inr q))⟩)⟩)
      exact ((lR_iff hR hW2).mp hD).elim q.1 q.2
    · have e : W = 1 := (nI_nat (b := 1) (by omega) (by omega)).mp h1
      subst e
      exact k_makesAll hR hC (fun h => yes σ sX.rf ⟨h, lF_1⟩) (fun h => noo σ sX.rf (fun q => q.1 h))
  · have hh := hp σ sX.rf (Or.inr h)
    rcases h with ⟨h1, h2⟩ | ⟨h1, h2⟩
    · refine br_t' (by rw [h1]; decide) (T_M_injective_57 ?_)
      rw [h1]; exact hh.1 h2
    · refine br_t' (by rw [h1]; decide) (T_M_injective_57 ?_)
      rw [h1]; exact hh.2 h2
end K17
section K18
variable {l : Launch} {v1 v2 : gs_V} {n : Nat} {σ1 σ2 : gs_S} {K W : Nat} {tb : Nat → Nat} {Post : gs_S → gs_S → Prop}
theorem o_surjective (hp : ¬ σ1.1 4 5 = 0) (hR : okR K W tb) (hC : cR σ1 K W tb) (hF : cF σ1 K W tb) (hM : mR σ2 K W tb) (hc : cSj σ1 K W tb) (hm : mSj σ2 K W tb) (hP : ∀ σ1' σ2', fPr σ1 σ1' → cSj σ1' K W tb → σ1'.1 14 5 = σ1.1 14 5 → σ1'.1 14 6 = σ1.1 14 6 → sX (fun k j => k = 19 ∨ (k = 0 ∧ j = 28)) σ2 σ2' → mSj σ2' K W tb → Post σ1' σ2') : lOi l v1 v2 (n + 5) me_A_surjective me_M_surjective [] σ1 σ2 Post := by
  refine E_A_surjective (T_A_surjective_0 ⟨fun _ => ?_, fun h => absurd h hp⟩)
  refine k_missesNothing hR hC hF hc (fun σ1' hX h1 h2 h3 => ⟨fun hs => br_f (by decide) (T_A_surjective_27 ?_), fun hs => br_t rfl (T_A_surjective_27 ?_)⟩)
  · exact k_M_surjective hR hM hm (fun σ2' hX2 g1 => ⟨fun _ => ⟨rfl, hP _ _ hX h1 h2 h3 hX2 g1⟩, fun q => absurd hs q⟩)
  · exact k_M_surjective hR hM hm (fun σ2' hX2 g1 => ⟨fun q => absurd q hs, fun _ => ⟨rfl, hP _ _ hX h1 h2 h3 hX2 g1⟩⟩)
theorem o_injective (hp : ¬ σ1.1 4 5 = 0) (hR : okR K W tb) (hC : cR σ1 K W tb) (hF : cF σ1 K W tb) (hM : mR σ2 K W tb) (hc : cSj σ1 K W tb) (hi : cIj σ1 K W tb) (hm : mIj σ2 K W tb) (hP : ∀ σ1' σ2', fPr σ1 σ1' → cSj σ1' K W tb → cIj σ1' K W tb → sX (fun k j => k = 19 ∨ (k = 0 ∧ j = 29)) σ2 σ2' → mIj σ2' K W tb → Post σ1' σ2') : lOi l v1 v2 (n + 6) me_A_injective me_M_injective [] σ1 σ2 Post := by
  refine E_A_injective (T_A_injective_0 ⟨fun _ => ?_, fun h => absurd h hp⟩)
  refine k_losesNothing hR hC hF hc hi (fun σ1' hX h1 h2 => ⟨fun hs => br_f (by decide) (T_A_injective_27 ?_), fun hs => br_t rfl (T_A_injective_27 ?_)⟩)
  · exact k_M_injective hR hM hm (fun σ2' hX2 g1 => ⟨fun _ => ⟨rfl, hP _ _ hX h1 h2 hX2 g1⟩, fun q => absurd hs q⟩)
  · exact k_M_injective hR hM hm (fun σ2' hX2 g1 => ⟨fun q => absurd q hs, fun _ => ⟨rfl, hP _ _ hX h1 h2 hX2 g1⟩⟩)
end K18
