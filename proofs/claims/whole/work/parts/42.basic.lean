/-! Loops, powers, the rule's numbers. -/
theorem dn {N : Nat} {P : Nat → Prop} (h1 : P N) (h2 : ∀ i, i < N → P (i + 1) → P i) : ∀ i, i ≤ N → P i := by
  have key : ∀ d i, i + d = N → P i := by
    intro d
    induction d with
    | zero => intro i hi; rw [show i = N by omega]; exact h1
    | succ d ih => intro i hi; exact h2 i (by omega) (ih (i + 1) (by omega))
  exact fun i hi => key (N - i) i (by omega)
theorem dn0 {N : Nat} {P : Nat → Prop} (h1 : P N) (h2 : ∀ i, i < N → P (i + 1) → P i) : P 0 := dn h1 h2 0 (Nat.zero_le _)
/-- a rule: K states, W cells wide, its table -/
def okR (K W : Nat) (tb : Nat → Nat) : Prop := 2 ≤ K ∧ K ≤ 4 ∧ 1 ≤ W ∧ W ≤ 4 ∧ ∀ j, j < K ^ W → tb j < K
def cR (σ : gs_S) (K W : Nat) (tb : Nat → Nat) : Prop := σ.1 4 6 = nI K ∧ σ.1 4 7 = nI W ∧ σ.1 4 8 = nI (K ^ W) ∧ σ.1 4 9 = nI (K ^ (W - 1)) ∧ ∀ j, j < K ^ W → σ.1 5 j = nI (tb j)
def mR (σ : gs_S) (K W : Nat) (tb : Nat → Nat) : Prop := σ.1 0 2 = nI K ∧ σ.1 0 3 = nI W ∧ σ.1 0 4 = nI (K ^ (W - 1)) ∧ σ.1 0 5 = nI (K ^ W) ∧ ∀ j, j < K ^ W → σ.1 2 j = nI (tb j)
theorem pw_le {K W : Nat} (hK : K ≤ 4) (hW : W ≤ 4) : K ^ W ≤ 256 := by
  rcases Nat.eq_zero_or_pos K with h | h
  · subst h
    rcases Nat.eq_zero_or_pos W with h | h
    · subst h; decide
    · rw [Nat.zero_pow h]; decide
  · exact Nat.le_trans (Nat.pow_le_pow_left hK W) (Nat.pow_le_pow_right (by decide) hW)
theorem pw_le1 {K W : Nat} (hK : K ≤ 4) (hW : W ≤ 4) : K ^ (W - 1) ≤ 64 := by
  rcases Nat.eq_zero_or_pos K with h | h
  · subst h
    rcases Nat.eq_zero_or_pos (W - 1) with h | h
    · rw [h]; decide
    · rw [Nat.zero_pow h]; decide
  · exact Nat.le_trans (Nat.pow_le_pow_left hK _) (Nat.pow_le_pow_right (by decide) (show W - 1 ≤ 3 by omega))
theorem pw_pos {K W : Nat} (hK : 2 ≤ K) : 0 < K ^ W := Nat.pow_pos (by omega)
theorem pw_s {K W : Nat} (hW : 1 ≤ W) : K ^ W = K ^ (W - 1) * K := by
  rw [← Nat.pow_succ, show (W - 1).succ = W by omega]
section K2s
variable {l : Launch} {v : gs_V} {n : Nat} {σ : gs_S}
theorem k_power {post : Int32 → gs_S → Prop} {b e : Nat} (he : e < 2 ^ 31) (hp : post (nI (b ^ e)) σ) : gM l v lyC 42 me_A_power (n + 1) [.int (nI b), .int (nI e)] σ (qI v lyC 42 post) := by
  refine E_A_power (T_A_power_0 ?_)
  refine dn0 (N := e) (P := fun i => G_A_power_4 l v n post σ (nI b) (nI e) (nI (b ^ i)) (nI i)) ?_ ?_
  · exact T_A_power_4 (br_t (nI_le (Nat.le_refl e) he) hp)
  · intro i hi ih
    refine T_A_power_4 (br_f (nI_ge hi he) ?_)
    rw [pk_mul, ← Nat.pow_succ, nI_1]
    exact ih
theorem k_powerOf {post : Int32 → gs_S → Prop} {b e : Nat} (he : e < 2 ^ 31) (hp : post (nI (b ^ e)) σ) : gM l v lyM 33 me_M_powerOf (n + 1) [.int (nI b), .int (nI e)] σ (qI v lyM 33 post) := by
  refine E_M_powerOf (T_M_powerOf_0 ?_)
  refine dn0 (N := e) (P := fun i => G_M_powerOf_4 l v n post σ (nI b) (nI e) (nI (b ^ i)) (nI i)) ?_ ?_
  · exact T_M_powerOf_4 (br_t (nI_le (Nat.le_refl e) he) hp)
  · intro i hi ih
    refine T_M_powerOf_4 (br_f (nI_ge hi he) ?_)
    rw [pk_mul, ← Nat.pow_succ, nI_1]
    exact ih
theorem jR_n {a d : Nat} (ha : a < 2 ^ 31) (h0 : 0 < d) (hd : d < 2 ^ 31) : jR (nI a) (nI d) = nI (a % d) := pk_rem ha h0 hd
theorem k_R_end {post : Int32 → gs_S → Prop} {K W w : Nat} {tb : Nat → Nat} (hR : okR K W tb) (hC : cR σ K W tb) (hw : w < 2 ^ 31) (hp : post (nI (w % K ^ (W - 1))) σ) : gM l v lyC 42 me_R_end (n + 1) [.ref (v.2.2 4), .int (nI w)] σ (qI v lyC 42 post) := by
  have h1 := pw_le1 hR.2.1 hR.2.2.2.1
  have h2 := pw_pos (W := W - 1) hR.1
  refine E_R_end (T_R_end_0 ?_)
  rw [hC.2.2.2.1]
  exact ⟨nI_ne0 h2 (by omega), by rw [jR_n hw h2 (by omega)]; exact hp⟩
theorem k_R_left {post : Int32 → gs_S → Prop} {K W : Nat} {tb : Nat → Nat} (hR : okR K W tb) (hC : cR σ K W tb) (hp : post (nI ((W - 1) / 2)) σ) : gM l v lyC 42 me_R_left (n + 1) [.ref (v.2.2 4)] σ (qI v lyC 42 post) := by
  refine E_R_left (T_R_left_0 ?_)
  rw [hC.2.1, show nI W - 1 = nI (W - 1) from pk_sub (a := W) (b := 1) hR.2.2.1, show nI (W - 1) / 2 = nI ((W - 1) / 2) from pk_div (d := 2) (by have := hR.2.2.2.1; omega) (by decide) (by decide)]
  exact hp
theorem nx_xor0 (a b : Nat) : nI a ^^^ nI b = nI (a ^^^ b) := by
  apply Int32.toBitVec_inj.mp
  apply BitVec.eq_of_toNat_eq
  show (BitVec.ofNat 32 a ^^^ BitVec.ofNat 32 b).toNat = (BitVec.ofNat 32 (a ^^^ b)).toNat
  simp [Nat.xor_mod_two_pow]
/-- floorMod of a number that is at least -1 -/
theorem k_floorMod {post : Int32 → gs_S → Prop} {a b c : Nat} (hb : b ≤ 1) (hc : 1 ≤ c) (hc2 : c ≤ 64) (ha : a ≤ 64) (hp : post (nI ((a + 4 * c - b) % c)) σ) : gM l v lyC 42 me_J_floorMod (n + 1) [.int (nI a - nI b), .int (nI c)] σ (qI v lyC 42 post) := by
  refine E_J_floorMod (T_J_floorMod_0 ⟨nI_ne0 (by omega) (by omega), ?_⟩)
  by_cases h : b ≤ a
  · rw [pk_sub h, jR_n (by omega) (by omega) (by omega)]
    have e1 : (a + 4 * c - b) % c = (a - b) % c := by
      rw [show a + 4 * c - b = (a - b) + c * 4 by omega, Nat.add_mul_mod_self_left]
    rw [e1] at hp
    refine ⟨fun _ => T_J_floorMod_18 hp, fun h0 => ?_⟩
    exfalso
    apply h0
    rw [nx_xor0]
    exact nI_pos' (Nat.lt_of_lt_of_le (Nat.xor_lt_two_pow (n := 7) (by omega) (by omega)) (by decide))
  · have ea : a = 0 := by omega
    have eb : b = 1 := by omega
    subst ea; subst eb
    have e0 : nI 0 - nI 1 = -1 := by decide
    rw [e0]
    have e1 : (0 + 4 * c - 1) % c = c - 1 := by
      rw [show 0 + 4 * c - 1 = (c - 1) + c * 3 by omega, Nat.add_mul_mod_self_left, Nat.mod_eq_of_lt (by omega)]
    rw [e1] at hp
    rcases (show c = 1 ∨ 2 ≤ c by omega) with h1 | h1
    · subst h1
      exact ⟨fun _ => T_J_floorMod_18 hp, fun _ => ⟨fun _ => T_J_floorMod_18 hp, fun h2 => absurd (by decide) h2⟩⟩
    · have er : jR (-1) (nI c) = -1 := by
        have : ∀ d : Nat, d < 65 → 2 ≤ d → jR (-1) (nI d) = -1 := by decide +kernel
        exact this c (by omega) h1
      have ex : ¬ 0 ≤ ((-1 : Int32) ^^^ nI c) := by
        have : ∀ d : Nat, d < 65 → 2 ≤ d → ¬ 0 ≤ ((-1 : Int32) ^^^ nI d) := by decide +kernel
        exact this c (by omega) h1
      rw [er]
      refine ⟨fun h2 => absurd h2 ex, fun _ => ⟨fun h2 => absurd h2 (by decide), fun _ => ?_⟩⟩
      have e2 : (-1 : Int32) + nI c = nI (c - 1) := by
        rw [Int32.add_comm]
        exact sb_m1 (by omega)
      rw [e2]
      exact hp
end K2s
