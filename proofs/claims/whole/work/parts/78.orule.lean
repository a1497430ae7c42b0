/-! The reference reads a rule; the call rule. -/
abbrev fRd (σ σ' : gs_S) : Prop := sX (fun k j => (k = 0 ∧ 10 ≤ j ∧ j ≤ 13) ∨ (5 ≤ k ∧ k ≤ 18)) σ σ'
section K37
variable {l : Launch} {v : gs_V} {n : Nat} {σ : gs_S} {tx : Nat → Nat} {sz : Nat}
theorem k_readRow {post : Int32 → gs_S → Prop} {K cnt : Nat} (hK : K ≤ 4) (hsz : sz ≤ 64) (h3 : 3 ≤ sz) (htx : ∀ j, j < sz → 32 ≤ tx j ∧ tx j ≤ 126) (hcnt : cnt ≤ 256) (e2 : σ.1 0 0 = nI sz) (e3 : σ.1 0 10 = nI K) (et : ∀ j, j < sz → σ.1 1 j = nI (tx j)) (hp : post (oI (dgF tx sz K (3 + cnt) cnt 3)) σ) : gM l v lyM 33 me_M_readRow (n + 1) [.ref (v.2.2 0), .int (nI cnt)] σ (qI v lyM 33 post) := by
  have L : ∀ k i, i + k = cnt → 3 + i ≤ sz → dgF tx sz K (3 + cnt) k (3 + i) = dgF tx sz K (3 + cnt) cnt 3 → G_M_readRow_2 l v n post σ (nI cnt) (nI i) := by
    intro k
    induction k with
    | zero =>
      intro i hi hs hE
      have hE : (if 3 + cnt < sz then some (3 + cnt) else none) = dgF tx sz K (3 + cnt) cnt 3 := hE
      refine T_M_readRow_2 (br_t (nI_le (by omega) (by omega)) ?_)
      rw [e2, show (3 : Int32) = nI 3 from rfl, nI_add, nI_leI (by omega) (by omega)]
      refine ⟨fun q => T_M_readRow_80 ?_, fun q => T_M_readRow_80 ?_⟩
      · rw [← hE, if_neg (by omega)] at hp; exact hp
      · rw [← hE, if_pos (by omega)] at hp; exact hp
    | succ k ih =>
      intro i hi hs hE
      have hE : (if sz ≤ 3 + i ∨ tx (3 + i) < 48 ∨ 48 + K ≤ tx (3 + i) then some (3 + i) else dgF tx sz K (3 + cnt) k (3 + i + 1)) = dgF tx sz K (3 + cnt) cnt 3 := hE
      have bad : (sz ≤ 3 + i ∨ tx (3 + i) < 48 ∨ 48 + K ≤ tx (3 + i)) → post (nI (3 + i)) σ := fun q => by
        rw [← hE, if_pos q] at hp
        exact hp
      have bad2 : (sz ≤ 3 + i ∨ tx (3 + i) < 48 ∨ 48 + K ≤ tx (3 + i)) → G_M_readRow_53 l v n post σ (nI i) := fun q => by
        refine T_M_readRow_53 ?_
        rw [show (3 : Int32) = nI 3 from rfl, nI_add]; exact bad q
      refine T_M_readRow_2 (br_f (nI_ge (by omega) (by omega)) ?_)
      rw [e2, show (3 : Int32) = nI 3 from rfl, nI_add, nI_ltI (by omega) (by omega)]
      refine ⟨fun q => ⟨vp_in_nI (by omega) (by decide), ?_⟩, fun q => ?_⟩
      · have hc := htx (3 + i) q
        rw [nI_clamp (by omega), et _ q, e3, show (48 : Int32) = nI 48 from rfl, nI_add, nI_ltI (by omega) (by omega), nI_ltI (by omega) (by omega)]
        refine ⟨fun q2 => bad2 (Or.inr (Or.inl q2)), fun q2 => ⟨vp_in_nI (by omega) (by decide), fun q3 => ?_, fun q3 => bad2 (Or.inr (Or.inr (by omega)))⟩⟩
        rw [if_neg (by omega)] at hE
        rw [nI_1]
        exact ih (i + 1) (by omega) (by omega) hE
      · have := bad (Or.inl (by omega))
        rw [show sz = 3 + i by omega]; exact this
  exact E_M_readRow (T_M_readRow_0 (L cnt 0 (by omega) (by omega) rfl))
theorem k_readAll {post : Int32 → gs_S → Prop} (hsz : sz ≤ 64) (htx : ∀ j, j < sz → 32 ≤ tx j ∧ tx j ≤ 126) (e2 : σ.1 0 0 = nI sz) (et : ∀ j, j < sz → σ.1 1 j = nI (tx j)) (hp : ∀ τ, fRd σ τ → (rdF tx sz = none → tOk (hK tx) (hW tx) tx sz ∧ 3 ≤ sz ∧ τ.1 0 10 = nI (hK tx) ∧ τ.1 0 11 = nI (hW tx)) → post (oI (rdF tx sz)) τ) : gM l v lyM 33 me_M_readAll (n + 9) [.ref (v.2.2 0)] σ (qI v lyM 33 post) := by
  refine E_M_readAll (T_M_readAll_0 ?_)
  rw [e2, show (nI sz < 1 ↔ sz < 1) from nI_ltI (b := 1) (by omega) (by decide), show (nI sz < 2 ↔ sz < 2) from nI_ltI (b := 2) (by omega) (by decide), show ((3 : Int32) ≤ nI sz ↔ 3 ≤ sz) from nI_leI (a := 3) (by decide) (by omega)]
  by_cases s1 : sz < 1
  · have hr : rdF tx sz = some 0 := by unfold rdF; rw [if_pos (Or.inl s1)]
    rw [hr] at hp
    exact br_t s1 (T_M_readAll_30 (hp σ sX.rf (fun z => absurd z (by simp))))
  · have hc0 := htx 0 (by omega)
    refine br_f s1 ?_
    rw [et 0 (by omega), show (50 : Int32) = nI 50 from rfl, show (52 : Int32) = nI 52 from rfl, nI_ltI (by omega) (by omega), nI_leI (by omega) (by omega)]
    have bad0 : (tx 0 < 50 ∨ 52 < tx 0) → G_M_readAll_30 l v (n + 8) post σ := fun q => by
      have hr : rdF tx sz = some 0 := by unfold rdF; rw [if_pos (Or.inr q)]
      rw [hr] at hp
      exact T_M_readAll_30 (hp σ sX.rf (fun z => absurd z (by simp)))
    refine ⟨fun q => bad0 (Or.inl q), fun q => ⟨fun q2 => ?_, fun q2 => bad0 (Or.inr (by omega))⟩⟩
    have c0 : ¬ (sz < 1 ∨ tx 0 < 50 ∨ 52 < tx 0) := by omega
    by_cases s2 : sz < 2
    · have hr : rdF tx sz = some 1 := by unfold rdF; rw [if_neg c0, if_pos (Or.inl s2)]
      rw [hr] at hp
      exact br_t s2 (T_M_readAll_62 (hp σ sX.rf (fun z => absurd z (by simp))))
    · have hc1 := htx 1 (by omega)
      refine br_f s2 ?_
      rw [et 1 (by omega), show (49 : Int32) = nI 49 from rfl, nI_ltI (by omega) (by omega), nI_leI (by omega) (by omega)]
      have bad1 : (tx 1 < 49 ∨ 52 < tx 1) → G_M_readAll_62 l v (n + 8) post σ := fun q => by
        have hr : rdF tx sz = some 1 := by unfold rdF; rw [if_neg c0, if_pos (Or.inr q)]
        rw [hr] at hp
        exact T_M_readAll_62 (hp σ sX.rf (fun z => absurd z (by simp)))
      refine ⟨fun q => bad1 (Or.inl q), fun q3 => ⟨fun q4 => ?_, fun q4 => bad1 (Or.inr (by omega))⟩⟩
      have c1 : ¬ (sz < 2 ∨ tx 1 < 49 ∨ 52 < tx 1) := by omega
      have hk := rdF_head hsz htx c0 c1
      have eK : nI (tx 0) - 48 = nI (hK tx) := pk_sub (a := tx 0) (b := 48) (by omega)
      have eW : nI (tx 1) - 48 = nI (hW tx) := pk_sub (a := tx 1) (b := 48) (by omega)
      rw [eK, eW]
      have hX0 : fRd σ (gs_pI (gs_pI σ 0 10 (nI (hK tx))) 0 11 (nI (hW tx))) := (sX.rf.I (by omega)).I (by omega)
      have g10 : (gs_pI (gs_pI σ 0 10 (nI (hK tx))) 0 11 (nI (hW tx))).1 0 10 = nI (hK tx) := by rw [pI_j (by decide), pI_eq]
      have g11 : (gs_pI (gs_pI σ 0 10 (nI (hK tx))) 0 11 (nI (hW tx))).1 0 11 = nI (hW tx) := pI_eq
      have hs2 : ∀ c : Int32, c = σ.1 1 2 → (3 ≤ sz → c = nI (tx 2)) := fun c hc h => by rw [hc, et 2 (by omega)]
      generalize gs_pI (gs_pI σ 0 10 (nI (hK tx))) 0 11 (nI (hW tx)) = τ at hX0 g10 g11 ⊢
      have g0 : τ.1 0 0 = nI sz := (hX0 0 0 (by omega)).1.trans e2
      have gt : ∀ j, j < sz → τ.1 1 j = nI (tx j) := fun j hj => (hX0 1 j (by omega)).1.trans (et j hj)
      refine ⟨fun h3 => ?_, fun h3 => ?_⟩
      · have hc2 := htx 2 (by omega)
        have hK4 := hk.2.1
        have hK2 := hk.1
        have hW4 := hk.2.2.2.1
        have h256 := pw_le hK4 hW4
        have hcnt : hW tx * (hK tx - 1) + 1 ≤ 256 := by
          have : hW tx * (hK tx - 1) ≤ 4 * 3 := Nat.mul_le_mul hW4 (by omega)
          omega
        rw [et 2 (by omega)]
        refine T_M_readAll_108 ?_
        rw [show (84 : Int32) = nI 84 from rfl, show (83 : Int32) = nI 83 from rfl, show (69 : Int32) = nI 69 from rfl, chq (by omega) (d := 84) (by decide), chq (by omega) (d := 83) (by decide), chq (by omega) (d := 69) (by decide), g10, g11, show nI (hK tx) - 1 = nI (hK tx - 1) from pk_sub (a := hK tx) (b := 1) (by omega), pk_mul, nI_1]
        by_cases c2 : tx 2 ≠ 84 ∧ tx 2 ≠ 83 ∧ tx 2 ≠ 69
        · have hr : rdF tx sz = some 2 := by unfold rdF; rw [if_neg c0, if_neg c1, if_pos (Or.inr c2)]
          rw [hr] at hp
          refine br_t' c2.1 (br_t' c2.2.1 (br_t' c2.2.2 (T_M_readAll_170 (br_t' ?_ (T_M_readAll_185 (hp τ hX0 (fun z => absurd z (by simp))))))))
          rw [show (69 : Int32) = nI 69 from rfl, chq (by omega) (d := 69) (by decide)]
          exact c2.2.2
        · have hR : rdF tx sz = if tx 2 = 84 then dgF tx sz (hK tx) (3 + hK tx ^ hW tx) (hK tx ^ hW tx) 3 else if tx 2 = 83 then dgF tx sz (hK tx) (3 + (hW tx * (hK tx - 1) + 1)) (hW tx * (hK tx - 1) + 1) 3 else (rX (hK tx) (hW tx) tx sz).1 := by
            unfold rdF
            rw [if_neg c0, if_neg c1, if_neg (by omega)]
          refine ⟨fun n84 => ⟨fun n83 => br_f' (by omega) ?_, fun e => ?_⟩, fun e => ?_⟩
          · rw [if_neg n84, if_neg n83] at hR
            refine k_work (m := 0) (n := n) hk h3 (Nat.pow_pos (by omega)) g0 g10 g11 gt (fun x τ' hX' hs hn => T_M_readAll_170 (br_f' ?_ (T_M_readAll_185 ?_)))
            · rw [show tx 2 = 69 by omega]; rfl
            · have out := hp τ' (hX0.tr (hX'.mono (fun k j h => by omega))) (fun _ => ⟨hk, h3, (hX' 0 10 (by omega)).1.trans g10, (hX' 0 11 (by omega)).1.trans g11⟩)
              have : τ'.1 0 12 = oI (rdF tx sz) := by
                rw [hR]
                cases hq : (rX (hK tx) (hW tx) tx sz).1 with
                | none => exact (hn hq).1
                | some q => exact hs q hq
              rw [this]; exact out
          · rw [if_neg n84, if_pos e] at hR
            rw [Nat.mul_comm]
            refine k_readRow (n := n + 7) hK4 hsz h3 htx hcnt g0 g10 gt ?_
            rw [← hR]
            exact hp τ hX0 (fun _ => ⟨hk, h3, g10, g11⟩)
          · rw [if_pos e] at hR
            refine k_powerOf (n := n + 7) (by omega) (k_readRow (n := n + 7) hK4 hsz h3 htx h256 g0 g10 gt ?_)
            rw [← hR]
            exact hp τ hX0 (fun _ => ⟨hk, h3, g10, g11⟩)
      · have hr : rdF tx sz = some 2 := by unfold rdF; rw [if_neg c0, if_neg c1, if_pos (Or.inl (by omega))]
        rw [hr] at hp
        exact T_M_readAll_108 (br_t' (by decide) (br_t' (by decide) (br_t' (by decide) (T_M_readAll_170 (br_t' (by decide) (T_M_readAll_185 (hp τ hX0 (fun z => absurd z (by simp)))))))))
theorem k_digitSum {post : Int32 → gs_S → Prop} {K W w : Nat} (hK2 : 2 ≤ K) (hK4 : K ≤ 4) (hW4 : W ≤ 4) (hw : w < K ^ W) (hp : post (nI (ds K w W)) σ) : gM l v lyM 33 me_M_digitSum (n + 1) [.int (nI w), .int (nI K)] σ (qI v lyM 33 post) := by
  have h256 := pw_le hK4 hW4
  have zero : ∀ j, j ≤ W → w / K ^ j = 0 → G_M_digitSum_4 l v n post σ (nI K) (nI (ds K w j)) (nI (w / K ^ j)) := fun j hj h => by
    rw [h]
    refine T_M_digitSum_4 (br_t (by decide) ?_)
    rw [← ds_end h W hj]; exact hp
  have L : ∀ j, j ≤ W → G_M_digitSum_4 l v n post σ (nI K) (nI (ds K w j)) (nI (w / K ^ j)) := by
    refine dn (zero W (Nat.le_refl _) (Nat.div_eq_of_lt hw)) ?_
    intro j hj ih
    by_cases h : w / K ^ j = 0
    · exact zero j (by omega) h
    · have hd : w / K ^ j ≤ w := Nat.div_le_self _ _
      refine T_M_digitSum_4 (br_f (nI_ge (a := 0) (b := w / K ^ j) (Nat.pos_of_ne_zero h) (by omega)) ?_)
      rw [jR_n (by omega) (by omega) (by omega), nI_add, pk_div (by omega) (by omega) (by omega), Nat.div_div_eq_div_mul, ← Nat.pow_succ]
      exact ⟨nI_ne0 (by omega) (by omega), nI_ne0 (by omega) (by omega), ih⟩
  refine E_M_digitSum (T_M_digitSum_0 ?_)
  have := L 0 (Nat.zero_le _)
  rw [Nat.pow_zero, Nat.div_one] at this
  exact this
theorem k_M_rule {post : Int32 → gs_S → Prop} (hsz : sz ≤ 64) (htx : ∀ j, j < sz → 32 ≤ tx j ∧ tx j ≤ 126) (e2 : σ.1 0 0 = nI sz) (et : ∀ j, j < sz → σ.1 1 j = nI (tx j)) (hf : ∀ q, rdF tx sz = some q → ∀ σ', sX (fun k j => (k = 0 ∧ (j = 0 ∨ 10 ≤ j ∧ j ≤ 13)) ∨ (5 ≤ k ∧ k ≤ 18)) σ σ' → σ'.1 0 0 = 0 → post (-10 - nI q) σ') (hr : rdF tx sz = none → ∀ σ', sX (fun k j => (k = 0 ∧ j ≠ 7) ∨ k = 2 ∨ k = 3 ∨ (5 ≤ k ∧ k ≤ 18)) σ σ' → σ'.1 0 0 = 0 → mR σ' (hK tx) (hW tx) (rdT tx sz) → (∀ j, j < 64 → σ'.1 3 j = 0) → σ'.1 0 28 = 0 → σ'.1 0 29 = 0 → σ'.1 0 31 = 0 → σ'.1 0 35 = 0 → σ'.1 0 41 = 0 → σ'.1 0 47 = 0 → post (nI (hK tx)) σ') : gM l v lyM 33 me_M_rule (n + 10) [.ref (v.2.2 0)] σ (qI v lyM 33 post) := by
  refine E_M_rule (T_M_rule_0 (k_readAll hsz htx e2 et (fun τ hX hN => ?_)))
  cases hq : rdF tx sz with
  | some q =>
    have hq' : ¬ nI q < 0 := nI_pos (by have := rdF_le hsz htx hq; omega)
    refine br_f hq' (hf q hq _ ((hX.mono (fun k j h => by omega)).I (by omega)) pI_eq)
  | none =>
    obtain ⟨hk, h3, g10, g11⟩ := hN hq
    have hk' := hk
    obtain ⟨hK2, hK4, hW1, hW4, _, _⟩ := hk'
    have h256 := pw_le hK4 hW4
    have hps := pw_s (K := hK tx) hW1
    have c0 : ¬ (sz < 1 ∨ tx 0 < 50 ∨ 52 < tx 0) := fun z => by unfold rdF at hq; rw [if_pos z] at hq; exact absurd hq (by simp)
    have c1 : ¬ (sz < 2 ∨ tx 1 < 49 ∨ 52 < tx 1) := fun z => by unfold rdF at hq; rw [if_neg c0, if_pos z] at hq; exact absurd hq (by simp)
    have c2 : ¬ (sz < 3 ∨ (tx 2 ≠ 84 ∧ tx 2 ≠ 83 ∧ tx 2 ≠ 69)) := fun z => by unfold rdF at hq; rw [if_neg c0, if_neg c1, if_pos z] at hq; exact absurd hq (by simp)
    have hR : (if tx 2 = 84 then dgF tx sz (hK tx) (3 + hK tx ^ hW tx) (hK tx ^ hW tx) 3 else if tx 2 = 83 then dgF tx sz (hK tx) (3 + (hW tx * (hK tx - 1) + 1)) (hW tx * (hK tx - 1) + 1) 3 else (rX (hK tx) (hW tx) tx sz).1) = none := by
      have := hq
      unfold rdF at this
      rw [if_neg c0, if_neg c1, if_neg c2] at this
      exact this
    have hc2 := htx 2 (by omega)
    refine br_t (by decide) ?_
    rw [g10, g11]
    refine k_powerOf (n := n + 8) (by omega) ?_
    rw [pI_j (j' := 2) (by decide), pI_eq, pk_div (by omega) (by omega) (by omega), show hK tx ^ hW tx / hK tx = hK tx ^ (hW tx - 1) by rw [hps, Nat.mul_div_cancel _ (by omega)]]
    refine ⟨nI_ne0 (by omega) (by omega), ?_⟩
    have hX1 : sX (fun k j => k = 0 ∧ (2 ≤ j ∧ j ≤ 5)) τ (gs_pI (gs_pI (gs_pI (gs_pI τ 0 2 (nI (hK tx))) 0 3 (nI (hW tx))) 0 5 (nI (hK tx ^ hW tx))) 0 4 (nI (hK tx ^ (hW tx - 1)))) := (((sX.rf.I (by omega)).I (by omega)).I (by omega)).I (by omega)
    have m2 : (gs_pI (gs_pI (gs_pI (gs_pI τ 0 2 (nI (hK tx))) 0 3 (nI (hW tx))) 0 5 (nI (hK tx ^ hW tx))) 0 4 (nI (hK tx ^ (hW tx - 1)))).1 0 2 = nI (hK tx) := by rw [pI_j (by decide), pI_j (by decide), pI_j (by decide), pI_eq]
    have m3 : (gs_pI (gs_pI (gs_pI (gs_pI τ 0 2 (nI (hK tx))) 0 3 (nI (hW tx))) 0 5 (nI (hK tx ^ hW tx))) 0 4 (nI (hK tx ^ (hW tx - 1)))).1 0 3 = nI (hW tx) := by rw [pI_j (by decide), pI_j (by decide), pI_eq]
    have m5 : (gs_pI (gs_pI (gs_pI (gs_pI τ 0 2 (nI (hK tx))) 0 3 (nI (hW tx))) 0 5 (nI (hK tx ^ hW tx))) 0 4 (nI (hK tx ^ (hW tx - 1)))).1 0 5 = nI (hK tx ^ hW tx) := by rw [pI_j (by decide), pI_eq]
    have m4 : (gs_pI (gs_pI (gs_pI (gs_pI τ 0 2 (nI (hK tx))) 0 3 (nI (hW tx))) 0 5 (nI (hK tx ^ hW tx))) 0 4 (nI (hK tx ^ (hW tx - 1)))).1 0 4 = nI (hK tx ^ (hW tx - 1)) := pI_eq
    generalize gs_pI (gs_pI (gs_pI (gs_pI τ 0 2 (nI (hK tx))) 0 3 (nI (hW tx))) 0 5 (nI (hK tx ^ hW tx))) 0 4 (nI (hK tx ^ (hW tx - 1))) = s1 at hX1 m2 m3 m4 m5 ⊢
    have hXs : sX (fun k j => (k = 0 ∧ j ≠ 7) ∨ k = 2 ∨ k = 3 ∨ (5 ≤ k ∧ k ≤ 18)) σ s1 := (hX.mono (fun k j h => by omega)).tr (hX1.mono (fun k j h => by omega))
    have L : ∀ w, w ≤ hK tx ^ hW tx → ∀ τ', sX (fun k j => (k = 0 ∧ (j = 12 ∨ j = 13)) ∨ k = 2 ∨ (5 ≤ k ∧ k ≤ 18)) s1 τ' → (∀ j, j < w → τ'.1 2 j = nI (rdT tx sz j)) → G_M_rule_65 l v (n + 9) post τ' (nI w) := by
      refine dn ?_ ?_
      · intro τ' hX' ht
        refine T_M_rule_65 (br_t (by rw [(hX' 0 5 (by omega)).1, m5]; exact nI_le (Nat.le_refl _) (by omega)) ?_)
        have M : ∀ i, i ≤ 64 → ∀ τ2, sX (fun k j => (k = 0 ∧ (j = 0 ∨ j = 12 ∨ j = 13)) ∨ k = 2 ∨ k = 3 ∨ (5 ≤ k ∧ k ≤ 18)) s1 τ2 → τ2.1 0 0 = 0 → (∀ j, j < hK tx ^ hW tx → τ2.1 2 j = nI (rdT tx sz j)) → (∀ j, j < i → τ2.1 3 j = 0) → G_M_rule_154 l v (n + 9) post τ2 (nI i) := by
          refine dn ?_ ?_
          · intro τ2 hX2 b0 bt bz
            refine T_M_rule_154 (br_t (by decide) ?_)
            rw [(hX2 0 2 (by omega)).1, m2]
            refine hr hq _ ((((((hXs.tr (hX2.mono (fun k j h => by omega))).I (by omega)).I (by omega)).I (by omega)).I (by omega)).I (by omega) |>.I (by omega)) ?_ ⟨?_, ?_, ?_, ?_, fun j hj => ?_⟩ (fun j hj => ?_) ?_ ?_ ?_ ?_ ?_ pI_eq
            · rw [pI_j (by decide), pI_j (by decide), pI_j (by decide), pI_j (by decide), pI_j (by decide), pI_j (by decide)]; exact b0
            · rw [pI_j (by decide), pI_j (by decide), pI_j (by decide), pI_j (by decide), pI_j (by decide), pI_j (by decide), (hX2 0 2 (by omega)).1]; exact m2
            · rw [pI_j (by decide), pI_j (by decide), pI_j (by decide), pI_j (by decide), pI_j (by decide), pI_j (by decide), (hX2 0 3 (by omega)).1]; exact m3
            · rw [pI_j (by decide), pI_j (by decide), pI_j (by decide), pI_j (by decide), pI_j (by decide), pI_j (by decide), (hX2 0 4 (by omega)).1]; exact m4
            · rw [pI_j (by decide), pI_j (by decide), pI_j (by decide), pI_j (by decide), pI_j (by decide), pI_j (by decide), (hX2 0 5 (by omega)).1]; exact m5
            · rw [pI_k (by decide), pI_k (by decide), pI_k (by decide), pI_k (by decide), pI_k (by decide), pI_k (by decide)]; exact bt j hj
            · rw [pI_k (by decide), pI_k (by decide), pI_k (by decide), pI_k (by decide), pI_k (by decide), pI_k (by decide)]; exact bz j hj
            · rw [pI_j (by decide), pI_j (by decide), pI_j (by decide), pI_j (by decide), pI_j (by decide), pI_eq]
            · rw [pI_j (by decide), pI_j (by decide), pI_j (by decide), pI_j (by decide), pI_eq]
            · rw [pI_j (by decide), pI_j (by decide), pI_j (by decide), pI_eq]
            · rw [pI_j (by decide), pI_j (by decide), pI_eq]
            · rw [pI_j (by decide), pI_eq]
          · intro i hi ih τ2 hX2 b0 bt bz
            refine T_M_rule_154 (br_f (nI_ge (a := i) (b := 64) hi (by decide)) ⟨vp_in_nI hi (by decide), ?_⟩)
            rw [nI_clamp (by omega), nI_1]
            refine ih _ (hX2.I (by omega)) (by rw [pI_k (by decide)]; exact b0) (fun j hj => by rw [pI_k (by decide)]; exact bt j hj) (fun j hj => ?_)
            by_cases z : j = i
            · subst z; exact pI_eq
            · rw [pI_j z]; exact bz j (by omega)
        refine M 0 (Nat.zero_le _) _ ((hX'.mono (fun k j h => by omega)).I (by omega)) pI_eq (fun j hj => by rw [pI_k (by decide)]; exact ht j hj) (fun j hj => absurd hj (Nat.not_lt_zero _))
      · intro w hw ih τ' hX' ht
        have f0 : τ'.1 0 0 = nI sz := (hX' 0 0 (by omega)).1.trans ((hX1 0 0 (by omega)).1.trans ((hX 0 0 (by omega)).1.trans e2))
        have f10 : τ'.1 0 10 = nI (hK tx) := (hX' 0 10 (by omega)).1.trans ((hX1 0 10 (by omega)).1.trans g10)
        have f11 : τ'.1 0 11 = nI (hW tx) := (hX' 0 11 (by omega)).1.trans ((hX1 0 11 (by omega)).1.trans g11)
        have ft : ∀ j, j < sz → τ'.1 1 j = nI (tx j) := fun j hj => (hX' 1 j (by omega)).1.trans ((hX1 1 j (by omega)).1.trans ((hX 1 j (by omega)).1.trans (et j hj)))
        have nxt : ∀ τ2 x, fWk τ' τ2 → x = nI (rdT tx sz w) → G_M_rule_140 l v (n + 9) post τ2 (nI w) x (nI w) := fun τ2 x hX2 hx => by
          refine T_M_rule_140 ?_
          rw [nI_clamp (by omega), nI_1]
          refine ⟨vp_in_nI (by omega) (by decide), ih _ ((hX'.tr (hX2.mono (fun k j h => by omega))).I (by omega)) (fun j hj => ?_)⟩
          by_cases z : j = w
          · subst z; rw [pI_eq]; exact hx
          · rw [pI_j z, (hX2 2 j (by omega)).1]; exact ht j (by omega)
        refine T_M_rule_65 (br_f (by rw [(hX' 0 5 (by omega)).1, m5]; exact nI_ge hw (by omega)) ?_)
        rw [ft 2 (by omega), show (84 : Int32) = nI 84 from rfl, show (83 : Int32) = nI 83 from rfl, chq (by omega) (d := 84) (by decide), chq (by omega) (d := 83) (by decide), show (3 : Int32) = nI 3 from rfl]
        refine ⟨fun n84 => ⟨fun n83 => ?_, fun e => ?_⟩, fun e => ?_⟩
        · rw [if_neg n84, if_neg n83] at hR
          refine k_work (m := w) (n := n + 1) hk h3 hw f0 f10 f11 ft (fun x τ2 hX2 _ hn => nxt τ2 x hX2 ?_)
          rw [(hn hR).2]
          unfold rdT
          rw [if_neg n84, if_neg n83]
        · rw [if_neg n84, if_pos e] at hR
          obtain ⟨a, b⟩ := dgF_none _ _ (by omega) hR
          rw [(hX' 0 2 (by omega)).1, m2]
          refine k_digitSum (n := n + 8) hK2 hK4 hW4 hw ?_
          have hd := ds_le (n := w) (K := hK tx) (by omega) (hW tx)
          have a := a (3 + ds (hK tx) w (hW tx)) (by omega) (by omega)
          rw [nI_add, nI_clamp (n := 3 + ds (hK tx) w (hW tx)) (by omega), ft _ a.1, show (48 : Int32) = nI 48 from rfl, show nI (tx (3 + ds (hK tx) w (hW tx))) - nI 48 = nI (tx (3 + ds (hK tx) w (hW tx)) - 48) from pk_sub a.2.1]
          refine ⟨vp_in_nI (by omega) (by decide), nxt τ' _ sX.rf ?_⟩
          unfold rdT
          rw [if_neg n84, if_pos e]
        · rw [if_pos e] at hR
          obtain ⟨a, b⟩ := dgF_none _ _ (by omega) hR
          have a := a (3 + w) (by omega) (by omega)
          rw [nI_add, nI_clamp (n := 3 + w) (by omega), ft _ a.1, show (48 : Int32) = nI 48 from rfl, show nI (tx (3 + w)) - nI 48 = nI (tx (3 + w) - 48) from pk_sub a.2.1]
          refine ⟨vp_in_nI (by omega) (by decide), nxt τ' _ sX.rf ?_⟩
          unfold rdT
          rw [if_pos e]
    exact L 0 (Nat.zero_le _) s1 sX.rf (fun j hj => absurd hj (Nat.not_lt_zero _))
end K37
abbrev fRc (σ σ' : gs_S) : Prop := sX (fun k j => k ≠ 10 ∧ (k = 37 → 6 ≤ j)) σ σ'
abbrev fRm (σ σ' : gs_S) : Prop := sX (fun k j => (k = 0 ∧ j ≠ 7) ∨ k = 2 ∨ k = 3 ∨ (5 ≤ k ∧ k ≤ 18)) σ σ'
section K38
variable {l : Launch} {v1 v2 : gs_V} {n : Nat} {σ1 σ2 : gs_S} {Post : gs_S → gs_S → Prop}
theorem o_rule {sz : Nat} {tx : Nat → Nat} (hT : rT σ1 σ2 sz tx) (hf : ∀ σ1' σ2', sX (fun k j => (k = 1 ∧ 2 ≤ j ∧ j ≤ 8) ∨ k = 3) σ1 σ1' → σ1'.1 1 2 = 0 → sX (fun k j => (k = 0 ∧ (j = 0 ∨ 10 ≤ j ∧ j ≤ 13)) ∨ (5 ≤ k ∧ k ≤ 18)) σ2 σ2' → σ2'.1 0 0 = 0 → Post σ1' σ2') (hr : ∀ K W tb σ1' σ2', okR K W tb → fRc σ1 σ1' → σ1'.1 1 2 = 0 → cR σ1' K W tb → σ1'.1 4 5 = 1 → cF σ1' K W tb → cS σ1' K W tb → (∀ j, j < 64 → σ1'.1 11 j = 0) → σ1'.1 14 3 = 0 → σ1'.1 14 5 = 0 → σ1'.1 17 3 = 0 → σ1'.1 19 4 = 0 → σ1'.1 31 8 = 0 → σ1'.1 37 6 = 0 → σ1'.1 37 8 = 0 → fRm σ2 σ2' → σ2'.1 0 0 = 0 → mR σ2' K W tb → (∀ j, j < 64 → σ2'.1 3 j = 0) → σ2'.1 0 28 = 0 → σ2'.1 0 29 = 0 → σ2'.1 0 31 = 0 → σ2'.1 0 35 = 0 → σ2'.1 0 41 = 0 → σ2'.1 0 47 = 0 → Post σ1' σ2') : lOi l v1 v2 (n + 56) me_A_rule me_M_rule [] σ1 σ2 Post := by
  obtain ⟨hsz, e1, e2, et⟩ := hT
  have htx : ∀ j, j < sz → 32 ≤ tx j ∧ tx j ≤ 126 := fun j hj => ⟨(et j hj).1, (et j hj).2.1⟩
  have second : ∀ (r : Int32) (P : gs_S → Prop), (∀ q, rdF tx sz = some q → r = -10 - nI q ∧ ∀ σ', sX (fun k j => (k = 0 ∧ (j = 0 ∨ 10 ≤ j ∧ j ≤ 13)) ∨ (5 ≤ k ∧ k ≤ 18)) σ2 σ' → σ'.1 0 0 = 0 → P σ') → (rdF tx sz = none → r = nI (hK tx) ∧ ∀ σ', fRm σ2 σ' → σ'.1 0 0 = 0 → mR σ' (hK tx) (hW tx) (rdT tx sz) → (∀ j, j < 64 → σ'.1 3 j = 0) → σ'.1 0 28 = 0 → σ'.1 0 29 = 0 → σ'.1 0 31 = 0 → σ'.1 0 35 = 0 → σ'.1 0 41 = 0 → σ'.1 0 47 = 0 → P σ') → gM l v2 lyM 33 me_M_rule (n + 56) [.ref (v2.2.2 0)] σ2 (qI v2 lyM 33 (fun r' σ2' => r = r' ∧ P σ2')) := fun r P h1 h2 => by
    refine k_M_rule (n := n + 46) hsz htx e2 (fun j hj => (et j hj).2.2.2) (fun q hq σ' a b => ⟨(h1 q hq).1, (h1 q hq).2 σ' a b⟩) (fun hq σ' a b c d e f g h i j => ⟨(h2 hq).1, (h2 hq).2 σ' a b c d e f g h i j⟩)
  refine E_A_rule (T_A_rule_0 (E_T_readInto (T_T_readInto_0 (k_fault (n := n + 1) hsz htx e1 (fun j hj => (et j hj).2.2.1) (fun τ hX hN => ?_)))))
  cases hq : rdF tx sz with
  | some q =>
    have hle := rdF_le hsz htx hq
    have hp : ¬ nI q < 0 := nI_pos (by omega)
    refine br_t' (fun z => ?_) (T_T_readInto_15 (br_f hp (second _ _ (fun q' hq' => ⟨?_, fun σ2' b1 b2 => hf _ σ2' ((hX.mono (fun k j h => by omega)).I (by omega)) pI_eq b1 b2⟩) (fun hq' => by rw [hq] at hq'; exact absurd hq' (by simp)))))
    · have z : nI q = -1 := z
      rw [z] at hp
      exact hp (by decide)
    · rw [hq] at hq'
      have := Option.some.inj hq'
      subst this
      rfl
  | none =>
    obtain ⟨hk, h3, g3, g4, g5⟩ := hN hq
    refine br_f' rfl (k_fill (n := n) hq hk h3 ((hX 1 2 (by omega)).1.trans e1) g3 g4 g5 (fun j hj => (hX 2 j (by omega)).1.trans (et j hj).2.2.1) (fun τ2 hX2 hO hC h5 hF hS => T_T_readInto_15 (br_t (by decide) ?_)))
    have hX3 : fRc σ1 (gs_pI τ2 1 2 0) := ((hX.mono (fun k j h => by omega)).tr (hX2.mono (fun k j h => by omega))).I (by omega)
    have hC3 : cR (gs_pI τ2 1 2 0) (hK tx) (hW tx) (rdT tx sz) := ⟨by rw [pI_k (by decide)]; exact hC.1, by rw [pI_k (by decide)]; exact hC.2.1, by rw [pI_k (by decide)]; exact hC.2.2.1, by rw [pI_k (by decide)]; exact hC.2.2.2.1, fun j hj => by rw [pI_k (by decide)]; exact hC.2.2.2.2 j hj⟩
    have a12 : (gs_pI τ2 1 2 0).1 1 2 = 0 := pI_eq
    have h53 : (gs_pI τ2 1 2 0).1 4 5 = 1 := by rw [pI_k (by decide)]; exact h5
    have hF3 : cF (gs_pI τ2 1 2 0) (hK tx) (hW tx) (rdT tx sz) := hF
    have hS3 : cS (gs_pI τ2 1 2 0) (hK tx) (hW tx) (rdT tx sz) := ⟨fun s hs => by rw [pI_k (by decide)]; exact hS.1 s hs, fun u hu => ⟨by rw [pI_k (by decide)]; exact (hS.2 u hu).1, by rw [pI_k (by decide)]; exact (hS.2 u hu).2⟩⟩
    generalize gs_pI τ2 1 2 0 = τ3 at hX3 hC3 a12 h53 hF3 hS3 ⊢
    refine k_C_clear (n := n + 53) (E_P_forget (T_P_forget_0 (E_V_forget (T_V_forget_0 (E_W_forget (T_W_forget_0 (E_O_forget (T_O_forget_0 (k_H_forget (n := n + 54) ?_)))))))))
    have hXa : sX (fun k j => k = 11 ∨ (k = 14 ∧ (j = 3 ∨ j = 5)) ∨ (k = 17 ∧ j = 3) ∨ (k = 19 ∧ j = 4) ∨ (k = 31 ∧ j = 8) ∨ (k = 37 ∧ (j = 6 ∨ j = 8))) τ3 (gs_pI (gs_pI (gs_pI (gs_pI (gs_pI (gs_pI (gs_pI (gs_pA τ3 11 (fl32 (τ3.1 11) 64 0)) 14 3 0) 14 5 0) 17 3 0) 19 4 0) 31 8 0) 37 6 0) 37 8 0) := (((((((sX.rf.A (fun _ => Or.inl rfl)).I (by omega)).I (by omega)).I (by omega)).I (by omega)).I (by omega)).I (by omega)).I (by omega)
    refine second _ _ (fun q hq' => by rw [hq] at hq'; exact absurd hq' (by simp)) (fun _ => ⟨?_, fun σ2' b1 b2 b3 b4 b5 b6 b7 b8 b9 b10 => hr (hK tx) (hW tx) (rdT tx sz) _ σ2' hO (hX3.tr (hXa.mono (fun k j h => by omega))) ?_ (hC3.kept hXa (fun _ => by omega) (fun _ => by omega)) ?_ (hF3.kept hXa (fun _ => by omega)) (hS3.kept hXa (fun _ => by omega) (fun _ => by omega) (fun _ => by omega)) (fun j hj => ?_) ?_ ?_ ?_ ?_ ?_ ?_ pI_eq b1 b2 b3 b4 b5 b6 b7 b8 b9 b10⟩)
    · rw [(hXa 4 6 (by omega)).1]; exact hC3.1
    · rw [(hXa 1 2 (by omega)).1]; exact a12
    · rw [(hXa 4 5 (by omega)).1]; exact h53
    · rw [pI_k (by decide), pI_k (by decide), pI_k (by decide), pI_k (by decide), pI_k (by decide), pI_k (by decide), pI_k (by decide), pA_row]
      exact if_pos hj
    · rw [pI_k (by decide), pI_k (by decide), pI_k (by decide), pI_k (by decide), pI_k (by decide), pI_j (by decide), pI_eq]
    · rw [pI_k (by decide), pI_k (by decide), pI_k (by decide), pI_k (by decide), pI_k (by decide), pI_eq]
    · rw [pI_k (by decide), pI_k (by decide), pI_k (by decide), pI_k (by decide), pI_eq]
    · rw [pI_k (by decide), pI_k (by decide), pI_k (by decide), pI_eq]
    · rw [pI_k (by decide), pI_k (by decide), pI_eq]
    · rw [pI_j (by decide), pI_eq]
end K38
