/-! The rule's own tables: shape, enter, complete. -/
def cl (tb : Nat → Nat) (s : Nat) : Nat → Nat
  | 0 => 0
  | w + 1 => cl tb s w + (if tb w < s then 1 else 0)
theorem cl_s (tb : Nat → Nat) (s : Nat) : ∀ w, cl tb (s + 1) w = cl tb s w + cn32 tb s w
  | 0 => rfl
  | w + 1 => by
    show cl tb (s + 1) w + (if tb w < s + 1 then 1 else 0) = cl tb s w + (if tb w < s then 1 else 0) + (cn32 tb s w + (if tb w = s then 1 else 0))
    rw [cl_s tb s w]
    by_cases h1 : tb w < s
    · rw [if_pos h1, if_pos (by omega), if_neg (by omega)]; omega
    · by_cases h2 : tb w = s
      · rw [if_neg h1, if_pos (by omega), if_pos h2]; omega
      · rw [if_neg h1, if_neg (by omega), if_neg h2]; omega
theorem cl_le (tb : Nat → Nat) (s : Nat) : ∀ w, cl tb s w ≤ w
  | 0 => Nat.le_refl _
  | w + 1 => by
    have := cl_le tb s w
    show cl tb s w + (if tb w < s then 1 else 0) ≤ w + 1
    split <;> omega
theorem cl_0 (tb : Nat → Nat) : ∀ w, cl tb 0 w = 0
  | 0 => rfl
  | w + 1 => by
    show cl tb 0 w + (if tb w < 0 then 1 else 0) = 0
    rw [cl_0 tb w, if_neg (Nat.not_lt_zero _)]
theorem cl_mono (tb : Nat → Nat) (T : Nat) {a b : Nat} (h : a ≤ b) : cl tb a T ≤ cl tb b T := by
  obtain ⟨d, rfl⟩ := Nat.le.dest h
  clear h
  induction d with
  | zero => exact Nat.le_refl _
  | succ d ih => rw [← Nat.add_assoc, cl_s]; omega
theorem cn_mono (tb : Nat → Nat) (s : Nat) {a b : Nat} (h : a ≤ b) : cn32 tb s a ≤ cn32 tb s b := by
  obtain ⟨d, rfl⟩ := Nat.le.dest h
  clear h
  induction d with
  | zero => exact Nat.le_refl _
  | succ d ih =>
    show cn32 tb s a ≤ cn32 tb s (a + d) + _
    omega
theorem cn_lt (tb : Nat → Nat) {s u w : Nat} (hs : tb u = s) (h : u < w) : cn32 tb s u < cn32 tb s w := by
  have h1 : cn32 tb s (u + 1) ≤ cn32 tb s w := cn_mono tb s h
  have h2 : cn32 tb s (u + 1) = cn32 tb s u + 1 := by
    show cn32 tb s u + (if tb u = s then 1 else 0) = _
    rw [if_pos hs]
  omega
def po (tb : Nat → Nat) (T u : Nat) : Nat := cl tb (tb u) T + cn32 tb (tb u) u
theorem po_lt (tb : Nat → Nat) {T u : Nat} (hu : u < T) : po tb T u < cl tb (tb u + 1) T := by
  rw [cl_s]
  have := cn_lt tb (s := tb u) rfl hu
  unfold po
  omega
theorem po_T (tb : Nat → Nat) {T u : Nat} (hu : u < T) : po tb T u < T := Nat.lt_of_lt_of_le (po_lt tb hu) (cl_le tb _ T)
/-- the sets of nodes behind a node, by the state that is made -/
def cF (σ : gs_S) (K W : Nat) (tb : Nat → Nat) : Prop := ∀ x s y, x < 64 → s < 4 → y < 64 → (bt (σ.2.1 6 (x * 4 + s)) y = true ↔ ∃ u, u < K ^ W ∧ u / K = x ∧ tb u = s ∧ u % K ^ (W - 1) = y)
/-- the windows sorted by what they make -/
def cS (σ : gs_S) (K W : Nat) (tb : Nat → Nat) : Prop := (∀ s, s ≤ K → σ.1 9 s = nI (cl tb s (K ^ W))) ∧ ∀ u, u < K ^ W → σ.1 7 (po tb (K ^ W) u) = nI (u / K) ∧ σ.1 8 (po tb (K ^ W) u) = nI (u % K ^ (W - 1))
theorem cF.kept {σ σ' : gs_S} {K W : Nat} {tb : Nat → Nat} {S : Nat → Nat → Prop} (h : cF σ K W tb) (hX : sX S σ σ') (h6 : ∀ j, ¬ S 6 j) : cF σ' K W tb := fun x s y hx hs hy => by
  rw [(hX 6 _ (h6 _)).2.1]
  exact h x s y hx hs hy
theorem cS.kept {σ σ' : gs_S} {K W : Nat} {tb : Nat → Nat} {S : Nat → Nat → Prop} (h : cS σ K W tb) (hX : sX S σ σ') (h7 : ∀ j, ¬ S 7 j) (h8 : ∀ j, ¬ S 8 j) (h9 : ∀ j, ¬ S 9 j) : cS σ' K W tb :=
  ⟨fun s hs => (hX 9 _ (h9 _)).1.trans (h.1 s hs), fun u hu => ⟨(hX 7 _ (h7 _)).1.trans (h.2 u hu).1, (hX 8 _ (h8 _)).1.trans (h.2 u hu).2⟩⟩
section K7s
variable {l : Launch} {v : gs_V} {n : Nat} {σ : gs_S} {K W : Nat} {tb : Nat → Nat}
theorem k_shape {post : gs_S → Prop} (hK : K ≤ 4) (hW1 : 1 ≤ W) (hW : W ≤ 4) (hp : post (gs_pI (gs_pI (gs_pI (gs_pI σ 4 6 (nI K)) 4 7 (nI W)) 4 9 (nI (K ^ (W - 1)))) 4 8 (nI (K ^ W)))) : gM l v lyC 42 me_R_shape (n + 2) [.ref (v.2.2 4), .int (nI K), .int (nI W)] σ (qV v lyC 42 post) := by
  refine E_R_shape (T_R_shape_0 ?_)
  rw [show nI W - 1 = nI (W - 1) from pk_sub (a := W) (b := 1) hW1]
  refine k_power (by omega) ?_
  rw [pk_mul, ← pw_s hW1]
  exact hp
theorem div_lt' (hR : okR K W tb) {w : Nat} (hw : w < K ^ W) : w / K < K ^ (W - 1) := by
  rw [pw_s hR.2.2.1, Nat.mul_comm] at hw
  exact Nat.div_lt_of_lt_mul hw
theorem k_enter {post : gs_S → Prop} {w a : Nat} (hR : okR K W tb) (hC : cR σ K W tb) (hw : w < K ^ W) (ha : a < 256) (hp : post (gs_pL (gs_pI (gs_pI σ 7 a (nI (w / K))) 8 a (nI (w % K ^ (W - 1)))) 6 (w / K * 4 + tb w) (σ.2.1 6 (w / K * 4 + tb w) ||| jS 1 (nI (w % K ^ (W - 1)))))) : gM l v lyC 42 me_R_enter (n + 2) [.ref (v.2.2 4), .int (nI w), .int (nI a)] σ (qV v lyC 42 post) := by
  have hKW := pw_le hR.2.1 hR.2.2.2.1
  have hN := pw_le1 hR.2.1 hR.2.2.2.1
  have hd := div_lt' hR hw
  have ht := hR.2.2.2.2 w hw
  have hK := hR.2.1
  have hK2 := hR.1
  refine E_R_enter (T_R_enter_0 ?_)
  rw [hC.1, pk_div (by omega) (by omega) (by omega), nI_clamp (n := a) (by omega), nI_clamp (n := w) (by omega)]
  refine ⟨nI_ne0 (by omega) (by omega), vp_in_nI ha (by decide), ?_⟩
  have hX : sX (fun k _ => k = 7) σ (gs_pI σ 7 a (nI (w / K))) := sX.rf.I rfl
  refine k_R_end hR (hC.kept hX (fun _ => by omega) (fun _ => by omega)) (by omega) ?_
  have e1 : (gs_pI σ 7 a (nI (w / K))).1 7 a * 4 + (gs_pI σ 7 a (nI (w / K))).1 5 w = nI (w / K * 4 + tb w) := by
    rw [pI_eq, pI_k (by decide), hC.2.2.2.2 w hw]
    show nI (w / K) * nI 4 + _ = _
    rw [pk_mul, nI_add]
  have e2 : (gs_pI (gs_pI σ 7 a (nI (w / K))) 8 a (nI (w % K ^ (W - 1)))).1 8 a = nI (w % K ^ (W - 1)) := pI_eq
  rw [e1, e2, nI_clamp (by omega)]
  exact ⟨vp_in_nI ha (by decide), vp_in_nI ha (by decide), vp_in_nI (by omega) (by decide), vp_in_nI (by omega) (by decide), vp_in_nI ha (by decide), vp_in_nI (by omega) (by decide), hp⟩
/-- where complete() is: at state s, before window w -/
def cI (σ τ : gs_S) (K W : Nat) (tb : Nat → Nat) (s w : Nat) : Prop :=
  sX (fun k _ => k = 6 ∨ k = 7 ∨ k = 8 ∨ k = 9) σ τ ∧ (∀ s', s' < s → τ.1 9 s' = nI (cl tb s' (K ^ W))) ∧ (∀ u, u < K ^ W → (tb u < s ∨ (tb u = s ∧ u < w)) → τ.1 7 (po tb (K ^ W) u) = nI (u / K) ∧ τ.1 8 (po tb (K ^ W) u) = nI (u % K ^ (W - 1))) ∧
  ∀ x s' y, x < 64 → s' < 4 → y < 64 → (bt (τ.2.1 6 (x * 4 + s')) y = true ↔ ∃ u, u < K ^ W ∧ (tb u < s ∨ (tb u = s ∧ u < w)) ∧ u / K = x ∧ tb u = s' ∧ u % K ^ (W - 1) = y)
theorem k_complete {post : gs_S → Prop} (hR : okR K W tb) (hC : cR σ K W tb) (hp : ∀ σ', sX (fun k j => k = 6 ∨ k = 7 ∨ k = 8 ∨ k = 9 ∨ (k = 4 ∧ j = 5)) σ σ' → σ'.1 4 5 = 1 → cF σ' K W tb → cS σ' K W tb → post σ') : gM l v lyC 42 me_R_complete (n + 3) [.ref (v.2.2 4)] σ (qV v lyC 42 post) := by
  have hKW := pw_le hR.2.1 hR.2.2.2.1
  have hN := pw_le1 hR.2.1 hR.2.2.2.1
  have hK := hR.2.1
  have hK2 := hR.1
  have hNp := pw_pos (W := W - 1) hR.1
  have outer : ∀ s, s ≤ K → ∀ τ, cI σ τ K W tb s 0 → G_R_complete_12 l v (n + 2) post τ (nI (cl tb s (K ^ W))) (nI s) := by
    refine dn ?_ ?_
    · intro τ hI
      have hCτ : cR τ K W tb := hC.kept hI.1 (fun _ => by omega) (fun _ => by omega)
      refine T_R_complete_12 (br_t (by rw [hCτ.1]; exact nI_le (Nat.le_refl K) (by omega)) ⟨by rw [hCτ.1]; exact vp_in_nI (by omega) (by decide), ?_⟩)
      rw [hCτ.1, nI_clamp (by omega)]
      have hX : sX (fun k j => k = 6 ∨ k = 7 ∨ k = 8 ∨ k = 9 ∨ (k = 4 ∧ j = 5)) σ (gs_pI (gs_pI τ 9 K (nI (cl tb K (K ^ W)))) 4 5 1) := ((hI.1.mono (fun k j h => by omega)).I (by omega)).I (by omega)
      refine hp _ hX pI_eq (fun x s y hx hs hy => ?_) ⟨fun s hs => ?_, fun u hu => ?_⟩
      · rw [pI_2, pI_2, hI.2.2.2 x s y hx hs hy]
        constructor
        · rintro ⟨u, hu, -, h1, h2, h3⟩; exact ⟨u, hu, h1, h2, h3⟩
        · rintro ⟨u, hu, h1, h2, h3⟩; exact ⟨u, hu, Or.inl (hR.2.2.2.2 u hu), h1, h2, h3⟩
      · rw [pI_k (by decide)]
        by_cases hsK : s = K
        · subst hsK; rw [pI_eq]
        · rw [pI_j hsK]; exact hI.2.1 s (by omega)
      · rw [pI_k (by decide), pI_k (by decide), pI_k (by decide), pI_k (by decide)]
        exact hI.2.2.1 u hu (Or.inl (hR.2.2.2.2 u hu))
    · intro s hs ih τ hI
      have hCτ : cR τ K W tb := hC.kept hI.1 (fun _ => by omega) (fun _ => by omega)
      refine T_R_complete_12 (br_f (by rw [hCτ.1]; exact nI_ge hs (by omega)) ⟨vp_in_nI (by omega) (by decide), ?_⟩)
      rw [nI_clamp (by omega)]
      have inner : ∀ w, w ≤ K ^ W → ∀ ρ, cI σ ρ K W tb s w → ρ.1 9 s = nI (cl tb s (K ^ W)) → G_R_complete_29 l v (n + 2) post ρ (nI (cl tb s (K ^ W) + cn32 tb s w)) (nI s) (nI w) := by
        refine dn ?_ ?_
        · intro ρ hJ h9
          have hCρ : cR ρ K W tb := hC.kept hJ.1 (fun _ => by omega) (fun _ => by omega)
          refine T_R_complete_29 (br_t (by rw [hCρ.2.2.1]; exact nI_le (Nat.le_refl _) (by omega)) ?_)
          rw [nI_1, ← cl_s]
          refine ih ρ ⟨hJ.1, fun s' hs' => ?_, fun u hu h => hJ.2.2.1 u hu (by omega), fun x s' y hx hs' hy => ?_⟩
          · by_cases h : s' = s
            · subst h; exact h9
            · exact hJ.2.1 s' (by omega)
          · rw [hJ.2.2.2 x s' y hx hs' hy]
            constructor
            · rintro ⟨u, hu, h, h1, h2, h3⟩; exact ⟨u, hu, by omega, h1, h2, h3⟩
            · rintro ⟨u, hu, h, h1, h2, h3⟩; exact ⟨u, hu, by omega, h1, h2, h3⟩
        · intro w hw ihw ρ hJ h9
          have hCρ : cR ρ K W tb := hC.kept hJ.1 (fun _ => by omega) (fun _ => by omega)
          have htw := hR.2.2.2.2 w hw
          have ihw' : ∀ ρ, cI σ ρ K W tb s (w + 1) → ρ.1 9 s = nI (cl tb s (K ^ W)) → G_R_complete_29 l v (n + 2) post ρ (nI (cl tb s (K ^ W) + (cn32 tb s w + (if tb w = s then 1 else 0)))) (nI s) (nI (w + 1)) := ihw
          refine T_R_complete_29 (br_f (by rw [hCρ.2.2.1]; exact nI_ge hw (by omega)) ⟨vp_in_nI (by omega) (by decide), ?_⟩)
          rw [nI_clamp (by omega), hCρ.2.2.2.2 w hw]
          refine ⟨fun h => T_R_complete_56 ?_, fun h => ?_⟩
          · have hne : ¬ tb w = s := fun q => h (by rw [q])
            rw [nI_1]
            have q := ihw' ρ ⟨hJ.1, hJ.2.1, fun u hu h => hJ.2.2.1 u hu (by
                rcases h with h | ⟨h1, h2⟩
                · exact Or.inl h
                · refine Or.inr ⟨h1, ?_⟩
                  rcases Nat.lt_or_ge u w with h3 | h3
                  · exact h3
                  · exfalso; apply hne; rw [show w = u by omega]; exact h1), fun x s' y hx hs' hy => by
                rw [hJ.2.2.2 x s' y hx hs' hy]
                constructor
                · rintro ⟨u, hu, h, h1, h2, h3⟩; exact ⟨u, hu, by omega, h1, h2, h3⟩
                · rintro ⟨u, hu, h, h1, h2, h3⟩
                  refine ⟨u, hu, ?_, h1, h2, h3⟩
                  rcases h with h | ⟨h4, h5⟩
                  · exact Or.inl h
                  · refine Or.inr ⟨h4, ?_⟩
                    rcases Nat.lt_or_ge u w with h6 | h6
                    · exact h6
                    · exfalso; apply hne; rw [show w = u by omega]; exact h4⟩ h9
            rw [if_neg hne, Nat.add_zero] at q
            exact q
          · have he : tb w = s := (nI_nat (by omega) (by omega)).mp h
            have hat : cl tb s (K ^ W) + cn32 tb s w = po tb (K ^ W) w := by unfold po; rw [he]
            have hpl := po_T tb hw
            rw [hat]
            refine k_enter hR hCρ hw (by omega) (T_R_complete_56 ?_)
            rw [nI_1, nI_1, ← hat]
            have q := ihw' (gs_pL (gs_pI (gs_pI ρ 7 (cl tb s (K ^ W) + cn32 tb s w) (nI (w / K))) 8 (cl tb s (K ^ W) + cn32 tb s w) (nI (w % K ^ (W - 1)))) 6 (w / K * 4 + tb w) (ρ.2.1 6 (w / K * 4 + tb w) ||| jS 1 (nI (w % K ^ (W - 1))))) ?_ ?_
            · rw [if_pos he, ← Nat.add_assoc] at q
              exact q
            · refine ⟨((hJ.1.I (by omega)).I (by omega)).L (by omega), fun s' hs' => ?_, fun u hu hu2 => ?_, fun x s' y hx hs' hy => ?_⟩
              · rw [pL_1, pI_k (by decide), pI_k (by decide)]; exact hJ.2.1 s' hs'
              · rw [hat, pL_1, pI_k (k' := 7) (by decide), pI_row]
                by_cases huw : u = w
                · subst huw
                  exact ⟨pk_us, pI_eq⟩
                · have hlt : po tb (K ^ W) u < po tb (K ^ W) w := by
                    rcases hu2 with h1 | ⟨h1, h2⟩
                    · have a1 := po_lt tb hu
                      have a2 := cl_mono tb (K ^ W) (show tb u + 1 ≤ tb w by omega)
                      unfold po at a1 ⊢
                      omega
                    · have a1 := cn_lt tb (s := s) h1 (show u < w by omega)
                      unfold po
                      rw [h1, he]
                      omega
                  rw [pk_un (by omega), pI_j (by omega), pI_k (by decide)]
                  exact hJ.2.2.1 u hu (by omega)
              · have hd := div_lt' hR hw
                have hm : w % K ^ (W - 1) < K ^ (W - 1) := Nat.mod_lt _ hNp
                rw [pL_row]
                show bt (if x * 4 + s' = w / K * 4 + tb w then _ else ρ.2.1 6 (x * 4 + s')) y = true ↔ _
                by_cases hc : x * 4 + s' = w / K * 4 + tb w
                · have hx1 : x = w / K := by omega
                  have hs1 : s' = tb w := by omega
                  rw [if_pos hc, ← hc, bt_or, Bool.or_eq_true, bt_one _ (by omega) y hy, decide_eq_true_eq, hJ.2.2.2 x s' y hx hs' hy]
                  constructor
                  · rintro (⟨u, hu, h, h1, h2, h3⟩ | h)
                    · exact ⟨u, hu, by omega, h1, h2, h3⟩
                    · exact ⟨w, hw, Or.inr ⟨he, by omega⟩, hx1.symm, hs1.symm, h.symm⟩
                  · rintro ⟨u, hu, h, h1, h2, h3⟩
                    by_cases huw : u = w
                    · subst huw; exact Or.inr h3.symm
                    · exact Or.inl ⟨u, hu, by omega, h1, h2, h3⟩
                · rw [if_neg hc]
                  have e0 : (gs_pI (gs_pI ρ 7 (cl tb s (K ^ W) + cn32 tb s w) (nI (w / K))) 8 (cl tb s (K ^ W) + cn32 tb s w) (nI (w % K ^ (W - 1)))).2.1 6 (x * 4 + s') = ρ.2.1 6 (x * 4 + s') := rfl
                  rw [hJ.2.2.2 x s' y hx hs' hy]
                  constructor
                  · rintro ⟨u, hu, h, h1, h2, h3⟩; exact ⟨u, hu, by omega, h1, h2, h3⟩
                  · rintro ⟨u, hu, h, h1, h2, h3⟩
                    refine ⟨u, hu, ?_, h1, h2, h3⟩
                    by_cases huw : u = w
                    · subst huw; exfalso; apply hc; rw [h1, h2]
                    · omega
            · rw [pL_1, pI_k (by decide), pI_k (by decide)]; exact h9
      have q := inner 0 (Nat.zero_le _) (gs_pI τ 9 s (nI (cl tb s (K ^ W)))) ⟨hI.1.I (by omega), fun s' hs' => by rw [pI_j (by omega)]; exact hI.2.1 s' hs', fun u hu h => by rw [pI_k (by decide), pI_k (by decide)]; exact hI.2.2.1 u hu h, fun x s' y hx hs' hy => hI.2.2.2 x s' y hx hs' hy⟩ pI_eq
      exact q
  refine E_R_complete (T_R_complete_0 (k_fillJ ⟨by decide, rfl⟩ (by decide) ?_))
  have q := outer 0 (Nat.zero_le _) (gs_pB σ 6 (fl64 (σ.2.1 6) 256 0)) ⟨sX.rf.B (fun _ => Or.inl rfl), fun s' hs' => absurd hs' (Nat.not_lt_zero _), fun u hu h => by omega, fun x s' y hx hs' hy => ?_⟩
  · rw [cl_0] at q
    exact q
  · rw [pB_row]
    show bt (if x * 4 + s' < 256 then (0 : Int64) else σ.2.1 6 (x * 4 + s')) y = true ↔ _
    rw [if_pos (by omega), bt_0]
    constructor
    · intro h; cases h
    · rintro ⟨u, hu, h, -⟩; omega
end K7s
