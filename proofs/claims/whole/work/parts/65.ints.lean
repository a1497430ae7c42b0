/-! Longs that are small whole numbers; the greatest common divisor on both sides. -/
def iL (z : Int) : Int64 := Int64.ofInt z
def bd (z : Int) : Prop := -(2 ^ 62) < z ∧ z < 2 ^ 62
theorem iL_mul (a b : Int) : iL a * iL b = iL (a * b) := (Int64.ofInt_mul a b).symm
theorem iL_sub (a b : Int) : iL a - iL b = iL (a - b) := (Int64.ofInt_sub a b).symm
theorem iL_add (a b : Int) : iL a + iL b = iL (a + b) := (Int64.ofInt_add a b).symm
theorem iL_neg (a : Int) : -iL a = iL (-a) := (Int64.ofInt_neg a).symm
theorem iL_toInt {z : Int} (h : bd z) : (iL z).toInt = z := Int64.toInt_ofInt_of_le (by have := h.1; omega) (by have := h.2; omega)
theorem iL_eq {a b : Int} (ha : bd a) (hb : bd b) : iL a = iL b ↔ a = b := ⟨fun h => by rw [← iL_toInt ha, ← iL_toInt hb, h], fun h => by rw [h]⟩
theorem iL_0 : iL 0 = 0 := rfl
theorem iL_1 : iL 1 = 1 := rfl
theorem bd_0 : bd 0 := ⟨by decide, by decide⟩
theorem bd_1 : bd 1 := ⟨by decide, by decide⟩
theorem iL_eq0 {a : Int} (ha : bd a) : iL a = 0 ↔ a = 0 := iL_eq ha bd_0
theorem iL_le {a b : Int} (ha : bd a) (hb : bd b) : iL a ≤ iL b ↔ a ≤ b := by rw [Int64.le_iff_toInt_le, iL_toInt ha, iL_toInt hb]
theorem iL_0le {a : Int} (ha : bd a) : 0 ≤ iL a ↔ 0 ≤ a := iL_le bd_0 ha
theorem iL_le0 {a : Int} (ha : bd a) : iL a ≤ 0 ↔ a ≤ 0 := iL_le ha bd_0
theorem iL_div {a b : Int} (ha : bd a) (hb : bd b) : iL a / iL b = iL (a.tdiv b) := by
  refine (Int64.ofInt_tdiv ?_ ?_ ?_ ?_).symm
  · have := ha.1; show -(2 ^ 63) ≤ a; omega
  · have := ha.2; show a ≤ 2 ^ 63 - 1; omega
  · have := hb.1; show -(2 ^ 63) ≤ b; omega
  · have := hb.2; show b ≤ 2 ^ 63 - 1; omega
theorem jRL_n {a b : Nat} (ha : a < 2 ^ 62) (hb : b < 2 ^ 62) : jRL (iL a) (iL b) = iL ((a % b : Nat) : Int) := by
  unfold jRL
  rw [iL_div ⟨by omega, by omega⟩ ⟨by omega, by omega⟩, iL_mul, iL_sub]
  congr 1
  have e : (a : Int).tdiv b = ((a / b : Nat) : Int) := (Int.ofNat_tdiv a b).symm
  rw [e]
  have h := Nat.div_add_mod a b
  have h2 : ((b * (a / b) + a % b : Nat) : Int) = (a : Int) := by rw [h]
  rw [Int.natCast_add, Int.natCast_mul, Int.mul_comm] at h2
  omega
theorem bd_nat {a : Nat} (h : a < 2 ^ 62) : bd (a : Int) := ⟨by omega, by omega⟩
section K25
variable {l : Launch} {v : gs_V} {n : Nat} {σ : gs_S}
theorem k_abs {post : Int64 → gs_S → Prop} {z : Int} (hz : bd z) (hp : post (iL (z.natAbs : Int)) σ) : gM l v lyC 42 me_J_abs (n + 1) [.long (iL z)] σ (qL v lyC 42 post) := by
  refine E_J_abs (T_J_abs_0 ?_)
  rw [iL_0le hz, iL_neg]
  refine ⟨fun h => T_J_abs_12 ?_, fun h => T_J_abs_12 ?_⟩
  · rw [show z = (z.natAbs : Int) by omega]; exact hp
  · rw [show -z = (z.natAbs : Int) by omega]; exact hp
theorem k_commonDivisor {post : Int64 → gs_S → Prop} {a b : Nat} (ha : a < 2 ^ 62) (hb : b < 2 ^ 45) (hp : post (iL ((Nat.gcd a b : Nat) : Int)) σ) : gM l v lyC 42 me_W_commonDivisor (n + 1) [.long (iL a), .long (iL b)] σ (qL v lyC 42 post) := by
  have stop : ∀ a' i, G_W_commonDivisor_44 l v n post σ (iL ((a' : Nat) : Int)) → i ≤ 100 → G_W_commonDivisor_9 l v n post σ (iL ((a' : Nat) : Int)) (iL ((0 : Nat) : Int)) (nI i) := fun a' i h hi => T_W_commonDivisor_9 ⟨fun _ => h, fun _ => br_t rfl h⟩
  have step : ∀ a' b' i, a' < 2 ^ 62 → 0 < b' → b' < 2 ^ 62 → i < 100 → G_W_commonDivisor_9 l v n post σ (iL ((b' : Nat) : Int)) (iL ((a' % b' : Nat) : Int)) (nI (i + 1)) → G_W_commonDivisor_9 l v n post σ (iL ((a' : Nat) : Int)) (iL ((b' : Nat) : Int)) (nI i) := fun a' b' i h1 h2 h3 h4 h => by
    have hne : ¬ iL ((b' : Nat) : Int) = 0 := by
      rw [iL_eq0 (bd_nat h3)]; omega
    refine T_W_commonDivisor_9 (br_f (nI_ge (a := i) (b := 100) h4 (by omega)) (br_f hne ⟨hne, ?_⟩))
    rw [jRL_n h1 h3, nI_1]
    exact h
  have L : ∀ k a' b' i, a' < 2 ^ 62 → b' < 2 ^ k → k ≤ 45 → i + 2 * k ≤ 100 → Nat.gcd a' b' = Nat.gcd a b → G_W_commonDivisor_9 l v n post σ (iL ((a' : Nat) : Int)) (iL ((b' : Nat) : Int)) (nI i) := by
    intro k
    induction k with
    | zero =>
      intro a' b' i h1 h2 hk h3 h4
      have e : b' = 0 := by omega
      subst e
      rw [Nat.gcd_zero_right] at h4
      subst h4
      exact stop _ i (T_W_commonDivisor_44 hp) (by omega)
    | succ k ih =>
      intro a' b' i h1 h2 hk h3 h4
      have hpk : 2 ^ (k + 1) ≤ 2 ^ 45 := Nat.pow_le_pow_right (by decide) hk
      have hps : 2 ^ (k + 1) = 2 ^ k * 2 := Nat.pow_succ 2 k
      rcases Nat.eq_zero_or_pos b' with e | e
      · subst e
        rw [Nat.gcd_zero_right] at h4
        subst h4
        exact stop _ i (T_W_commonDivisor_44 hp) (by omega)
      · have hm : a' % b' < b' := Nat.mod_lt _ e
        refine step a' b' i h1 e (by omega) (by omega) ?_
        have g1 : Nat.gcd b' (a' % b') = Nat.gcd a b := by rw [← h4, Nat.gcd_comm a' b', Nat.gcd_rec b' a', Nat.gcd_comm]
        by_cases q : a' % b' < 2 ^ k
        · exact ih b' (a' % b') (i + 1) (by omega) q (by omega) (by omega) g1
        · have hpp : 0 < 2 ^ k := Nat.pow_pos (by decide)
          refine step b' (a' % b') (i + 1) (by omega) (by omega) (by omega) (by omega) ?_
          have hmm : b' % (a' % b') = b' - a' % b' := by
            rw [Nat.mod_eq_sub_mod (by omega), Nat.mod_eq_of_lt (by omega)]
          refine ih (a' % b') (b' % (a' % b')) (i + 1 + 1) (by omega) (by omega) (by omega) (by omega) ?_
          rw [← g1, Nat.gcd_comm b' (a' % b'), Nat.gcd_rec (a' % b') b', Nat.gcd_comm]
  exact E_W_commonDivisor (T_W_commonDivisor_0 (L 45 a b 0 ha hb (Nat.le_refl _) (by decide) rfl))
theorem k_divisor {post : Int64 → gs_S → Prop} {z y : Int} (hz : bd z) (hy : bd y) (hp : post (iL ((Nat.gcd z.natAbs y.natAbs : Nat) : Int)) σ) : gM l v lyM 33 me_M_divisor (n + 1) [.long (iL z), .long (iL y)] σ (qL v lyM 33 post) := by
  have L : ∀ b a : Nat, a < 2 ^ 62 → b < 2 ^ 62 → Nat.gcd a b = Nat.gcd z.natAbs y.natAbs → G_M_divisor_28 l v n post σ (iL (a : Int)) (iL (b : Int)) := by
    intro b
    induction b using Nat.strongRecOn with
    | _ b ih =>
      intro a ha hb hg
      refine T_M_divisor_28 ?_
      rw [iL_le0 (bd_nat hb)]
      refine ⟨fun h => ?_, fun h => ⟨?_, ?_⟩⟩
      · have e : b = 0 := by omega
        subst e
        rw [Nat.gcd_zero_right] at hg
        subst hg
        exact hp
      · rw [iL_eq0 (bd_nat hb)]; omega
      · rw [jRL_n ha hb]
        have hm : a % b < b := Nat.mod_lt _ (by omega)
        exact ih (a % b) hm b hb (by omega) (by rw [← hg, Nat.gcd_comm a b, Nat.gcd_rec b a, Nat.gcd_comm])
  have h1 := hz.1
  have h2 := hz.2
  have h3 := hy.1
  have h4 := hy.2
  have fin : G_M_divisor_28 l v n post σ (iL (z.natAbs : Int)) (iL (y.natAbs : Int)) := L y.natAbs z.natAbs (by omega) (by omega) rfl
  have mid : ∀ x, x = iL (z.natAbs : Int) → G_M_divisor_12 l v n post σ (iL y) x := fun x hx => by
    refine T_M_divisor_12 ?_
    rw [iL_0le hy, iL_neg]
    refine ⟨fun h => T_M_divisor_26 ?_, fun h => T_M_divisor_26 ?_⟩
    · rw [hx, show y = (y.natAbs : Int) by omega]; exact fin
    · rw [hx, show -y = (y.natAbs : Int) by omega]; exact fin
  refine E_M_divisor (T_M_divisor_0 ?_)
  rw [iL_0le hz, iL_neg]
  refine ⟨fun h => mid _ ?_, fun h => mid _ ?_⟩
  · congr 1; omega
  · congr 1; omega
end K25
/-- vectors over the states 1 to 3 -/
def g9 (v : Nat → Int) : Nat := Nat.gcd (Nat.gcd (v 1).natAbs (v 2).natAbs) (v 3).natAbs
def shr (v : Nat → Int) (i : Nat) : Int := (v i).tdiv (g9 v)
theorem g9_dvd (v : Nat → Int) {i : Nat} (h1 : 1 ≤ i) (h2 : i < 4) : (g9 v : Int) ∣ v i := by
  have : i = 1 ∨ i = 2 ∨ i = 3 := by omega
  have d : ∀ x : Int, g9 v ∣ x.natAbs → (g9 v : Int) ∣ x := fun x h => Int.ofNat_dvd_left.mpr h
  rcases this with e | e | e <;> subst e
  · exact d _ (Nat.dvd_trans (Nat.gcd_dvd_left _ _) (Nat.gcd_dvd_left _ _))
  · exact d _ (Nat.dvd_trans (Nat.gcd_dvd_left _ _) (Nat.gcd_dvd_right _ _))
  · exact d _ (Nat.gcd_dvd_right _ _)
theorem shr_mul {v : Nat → Int} (h0 : v 0 = 0) {i : Nat} (hi : i < 4) : (g9 v : Int) * shr v i = v i := by
  rcases Nat.eq_zero_or_pos i with e | e
  · subst e
    unfold shr
    rw [h0, Int.zero_tdiv, Int.mul_zero]
  · exact Int.mul_tdiv_cancel' (g9_dvd v e hi)
theorem g9_zero {v : Nat → Int} (h : g9 v = 0) {i : Nat} (h1 : 1 ≤ i) (h2 : i < 4) : v i = 0 := by
  have := g9_dvd v h1 h2
  rw [h] at this
  exact Int.zero_dvd.mp this
theorem g9_one {v : Nat → Int} (hv : ¬ g9 v = 0) : g9 (shr v) = 1 := by
  have hs : ∀ i, 1 ≤ i → i < 4 → (v i).natAbs = g9 v * (shr v i).natAbs := fun i h1 h2 => by
    have e : (g9 v : Int) * shr v i = v i := Int.mul_tdiv_cancel' (g9_dvd v h1 h2)
    rw [← e, Int.natAbs_mul, Int.natAbs_natCast]
  have e : g9 v = g9 v * g9 (shr v) := by
    show Nat.gcd (Nat.gcd (v 1).natAbs (v 2).natAbs) (v 3).natAbs = g9 v * Nat.gcd (Nat.gcd (shr v 1).natAbs (shr v 2).natAbs) (shr v 3).natAbs
    rw [hs 1 (by decide) (by decide), hs 2 (by decide) (by decide), hs 3 (by decide) (by decide), Nat.gcd_mul_left, Nat.gcd_mul_left]
  have h2 : g9 v * 1 = g9 v * g9 (shr v) := by rw [Nat.mul_one]; exact e
  exact (Nat.eq_of_mul_eq_mul_left (Nat.pos_of_ne_zero hv) h2).symm
theorem shr_abs (v : Nat → Int) (i : Nat) : (shr v i).natAbs ≤ (v i).natAbs := by
  unfold shr
  rw [Int.natAbs_tdiv]
  exact Nat.div_le_self _ _
