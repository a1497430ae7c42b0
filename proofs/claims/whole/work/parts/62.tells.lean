/-! What the made cells tell: an inverse tells all, so a rule that has one loses nothing. -/
theorem cut9 {K : Nat} (hK : 2 ≤ K) (M c L i e : Nat) (h : i + e ≤ L) : (M / K ^ c % K ^ L) / K ^ i % K ^ e = M / K ^ (c + i) % K ^ e := by
  have e1 : K ^ L = K ^ i * K ^ (L - i) := by rw [← Nat.pow_add]; congr 1; omega
  have e2 : K ^ e ∣ K ^ (L - i) := Nat.pow_dvd_pow K (by omega)
  rw [e1, Nat.mod_mul_right_div_self, Nat.mod_mod_of_dvd _ e2, Nat.div_div_eq_div_mul, ← Nat.pow_add]
/-- the made cells, packed -/
def md (K W : Nat) (tb : Nat → Nat) : Nat → Nat → Nat
  | 0, _ => 0
  | u + 1, n => md K W tb u n + tb (n / K ^ u % K ^ W) * K ^ u
def sm9 (K W : Nat) (tb : Nat → Nat) (m n n' : Nat) : Prop := ∀ i, i < m → tb (n / K ^ i % K ^ W) = tb (n' / K ^ i % K ^ W)
def dg (K W u p n : Nat) : Nat := n / K ^ (u + W - 2 - p) % K
def told (K W : Nat) (tb : Nat → Nat) (u p : Nat) : Prop := ∀ n n', n < K ^ (u + W - 1) → n' < K ^ (u + W - 1) → md K W tb u n = md K W tb u n' → dg K W u p n = dg K W u p n'
section TE
variable {K W : Nat} {tb : Nat → Nat}
theorem md_lt (hR : okR K W tb) (n : Nat) : ∀ u, md K W tb u n < K ^ u
  | 0 => Nat.pow_pos (by have := hR.1; omega)
  | u + 1 => by
    have h1 := md_lt hR n u
    have h2 := hR.2.2.2.2 (n / K ^ u % K ^ W) (Nat.mod_lt _ (pw_pos hR.1))
    show md K W tb u n + tb (n / K ^ u % K ^ W) * K ^ u < K ^ (u + 1)
    have h3 : (tb (n / K ^ u % K ^ W) + 1) * K ^ u ≤ K * K ^ u := Nat.mul_le_mul_right _ h2
    rw [Nat.succ_mul] at h3
    rw [Nat.pow_succ, Nat.mul_comm (K ^ u) K]
    omega
theorem md_same {n n' : Nat} : ∀ u, sm9 K W tb u n n' → md K W tb u n = md K W tb u n'
  | 0, _ => rfl
  | u + 1, h => by
    show md K W tb u n + tb (n / K ^ u % K ^ W) * K ^ u = md K W tb u n' + tb (n' / K ^ u % K ^ W) * K ^ u
    rw [md_same u (fun i hi => h i (by omega)), h u (by omega)]
theorem sm_cut (hK : 2 ≤ K) {m M M' c u : Nat} (hW : 1 ≤ W) (h : sm9 K W tb m M M') (hc : c + u ≤ m) : sm9 K W tb u (M / K ^ c % K ^ (u + W - 1)) (M' / K ^ c % K ^ (u + W - 1)) := fun i hi => by
  rw [cut9 hK M c _ i W (by omega), cut9 hK M' c _ i W (by omega)]
  exact h (c + i) (by omega)
def T9 (K W : Nat) (S : Nat → Nat → Prop) (x y : Nat) : Prop := x < K ^ (W - 1) ∧ y < K ^ (W - 1) ∧ (x = y ∨ S x y)
theorem T9_fw (hR : okR K W tb) {S : Nat → Nat → Prop} (hS : two K W tb S) {x y : Nat} (h : T9 K W S x y) : ∃ x' y', go2 K W tb x y x' y' ∧ T9 K W S x' y' := by
  obtain ⟨h1, h2, h3⟩ := h
  rcases h3 with e | h3
  · subst e
    have hu := win_out hR h1 (show 0 < K by have := hR.1; omega)
    exact ⟨_, _, ⟨_, _, hu.1, hu.1, hu.2, hu.2, rfl, rfl, rfl⟩, Nat.mod_lt _ (pw_pos hR.1), Nat.mod_lt _ (pw_pos hR.1), Or.inl rfl⟩
  · obtain ⟨_, _, _, ⟨x', y', a, b⟩, _⟩ := hS x y h3
    have hl := go2_lt hR a
    exact ⟨x', y', a, hl.2.2.1, hl.2.2.2, b⟩
theorem T9_bw (hR : okR K W tb) {S : Nat → Nat → Prop} (hS : two K W tb S) {x y : Nat} (h : T9 K W S x y) : ∃ x' y', go2 K W tb x' y' x y ∧ T9 K W S x' y' := by
  obtain ⟨h1, h2, h3⟩ := h
  rcases h3 with e | h3
  · subst e
    have hu := win_in hR h1 (show 0 < K by have := hR.1; omega)
    have hd := div_lt' hR hu.1
    exact ⟨_, _, ⟨_, _, hu.1, hu.1, rfl, rfl, rfl, hu.2, hu.2⟩, hd, hd, Or.inl rfl⟩
  · obtain ⟨_, _, _, _, x', y', a, b⟩ := hS x y h3
    have hl := go2_lt hR a
    exact ⟨x', y', a, hl.1, hl.2.1, b⟩
/-- one cell more behind -/
theorem ext_fw (hR : okR K W tb) {n w f : Nat} (hw : w < K ^ W) (h1 : w / K = n % K ^ (W - 1)) (hn : n < K ^ (W - 1 + f)) : (n * K + w % K) < K ^ (W - 1 + (f + 1)) ∧ (n * K + w % K) / K ^ 0 % K ^ W = w ∧ (∀ i, (n * K + w % K) / K ^ (i + 1) = n / K ^ i) ∧ (n * K + w % K) % K ^ (W - 1) = w % K ^ (W - 1) := by
  have hK2 := hR.1
  have hm : w % K < K := Nat.mod_lt _ (by omega)
  have hdv : (n * K + w % K) / K = n := by rw [Nat.mul_comm, Nat.mul_add_div (by omega), Nat.div_eq_of_lt hm, Nat.add_zero]
  have hmod : (n * K + w % K) % K ^ W = w := by
    rw [pw_s hR.2.2.1, Nat.mul_comm (K ^ (W - 1)) K, Nat.mod_mul, hdv, ← h1, Nat.mul_comm n K, Nat.mul_add_mod, Nat.mod_mod]
    exact Nat.mod_add_div w K
  refine ⟨?_, by rw [Nat.pow_zero, Nat.div_one, hmod], fun i => ?_, ?_⟩
  · have : (n + 1) * K ≤ K ^ (W - 1 + f) * K := Nat.mul_le_mul_right K hn
    rw [Nat.succ_mul] at this
    rw [← Nat.add_assoc, Nat.pow_succ]
    omega
  · rw [Nat.pow_succ, Nat.mul_comm (K ^ i) K, ← Nat.div_div_eq_div_mul, hdv]
  · have hd : K ^ (W - 1) ∣ K ^ W := Nat.pow_dvd_pow K (by omega)
    rw [← Nat.mod_mod_of_dvd _ hd, hmod]
theorem rows_fw (hR : okR K W tb) {S : Nat → Nat → Prop} (hS : two K W tb S) {x y : Nat} (h : T9 K W S x y) : ∀ f, ∃ n n', n < K ^ (W - 1 + f) ∧ n' < K ^ (W - 1 + f) ∧ sm9 K W tb f n n' ∧ n / K ^ f = x ∧ n' / K ^ f = y ∧ T9 K W S (n % K ^ (W - 1)) (n' % K ^ (W - 1)) := by
  intro f
  induction f with
  | zero =>
    refine ⟨x, y, h.1, h.2.1, fun i hi => absurd hi (Nat.not_lt_zero i), ?_, ?_, ?_⟩
    · rw [Nat.pow_zero, Nat.div_one]
    · rw [Nat.pow_zero, Nat.div_one]
    · rw [Nat.mod_eq_of_lt h.1, Nat.mod_eq_of_lt h.2.1]; exact h
  | succ f ih =>
    obtain ⟨n, n', h1, h2, h3, h4, h5, h6⟩ := ih
    obtain ⟨x', y', ⟨u, w, g1, g2, g3, g4, g5, g6, g7⟩, g8⟩ := T9_fw hR hS h6
    have e1 := ext_fw hR g1 g3 h1
    have e2 := ext_fw hR g2 g4 h2
    refine ⟨n * K + u % K, n' * K + w % K, e1.1, e2.1, fun i hi => ?_, by rw [e1.2.2.1]; exact h4, by rw [e2.2.2.1]; exact h5, ?_⟩
    · cases i with
      | zero => rw [e1.2.1, e2.2.1]; exact g5
      | succ i => rw [e1.2.2.1, e2.2.2.1]; exact h3 i (by omega)
    · rw [e1.2.2.2, e2.2.2.2, g6, g7]; exact g8
/-- one cell more before -/
theorem ext_bw (hR : okR K W tb) {n w m : Nat} (hw : w < K ^ W) (hn : n < K ^ (W - 1 + m)) (h1 : w % K ^ (W - 1) = n / K ^ m) : (w / K ^ (W - 1) * K ^ (W - 1 + m) + n) < K ^ (W - 1 + (m + 1)) ∧ (∀ i, i < m → (w / K ^ (W - 1) * K ^ (W - 1 + m) + n) / K ^ i % K ^ W = n / K ^ i % K ^ W) ∧ (w / K ^ (W - 1) * K ^ (W - 1 + m) + n) / K ^ m % K ^ W = w ∧ (w / K ^ (W - 1) * K ^ (W - 1 + m) + n) / K ^ (m + 1) = w / K ∧ (w / K ^ (W - 1) * K ^ (W - 1 + m) + n) % K ^ (W - 1 + m) = n := by
  have hK2 := hR.1
  have hW := hR.2.2.1
  have hs : w / K ^ (W - 1) < K := by
    rw [pw_s hW] at hw
    exact Nat.div_lt_of_lt_mul hw
  have hmod : (w / K ^ (W - 1) * K ^ (W - 1 + m) + n) % K ^ (W - 1 + m) = n := by rw [Nat.mul_comm, Nat.mul_add_mod, Nat.mod_eq_of_lt hn]
  have hdiv : (w / K ^ (W - 1) * K ^ (W - 1 + m) + n) / K ^ m = w := by
    rw [Nat.pow_add, ← Nat.mul_assoc, Nat.mul_comm, Nat.mul_add_div (Nat.pow_pos (by omega)), ← h1, Nat.mul_comm]
    exact Nat.div_add_mod w _
  refine ⟨?_, fun i hi => ?_, by rw [hdiv, Nat.mod_eq_of_lt hw], by rw [Nat.pow_succ, ← Nat.div_div_eq_div_mul, hdiv], hmod⟩
  · have : (w / K ^ (W - 1) + 1) * K ^ (W - 1 + m) ≤ K * K ^ (W - 1 + m) := Nat.mul_le_mul_right _ hs
    rw [Nat.succ_mul] at this
    rw [← Nat.add_assoc, Nat.pow_succ, Nat.mul_comm (K ^ (W - 1 + m)) K]
    omega
  · have q := cut9 hK2 (w / K ^ (W - 1) * K ^ (W - 1 + m) + n) 0 (W - 1 + m) i W (by omega)
    rw [Nat.pow_zero, Nat.div_one, hmod, Nat.zero_add] at q
    exact q.symm
theorem rows_bw (hR : okR K W tb) {S : Nat → Nat → Prop} (hS : two K W tb S) {n n' f : Nat} (h1 : n < K ^ (W - 1 + f)) (h2 : n' < K ^ (W - 1 + f)) (h3 : sm9 K W tb f n n') (h4 : T9 K W S (n / K ^ f) (n' / K ^ f)) : ∀ j, ∃ M M', M < K ^ (W - 1 + (f + j)) ∧ M' < K ^ (W - 1 + (f + j)) ∧ sm9 K W tb (f + j) M M' ∧ M % K ^ (W - 1 + f) = n ∧ M' % K ^ (W - 1 + f) = n' ∧ T9 K W S (M / K ^ (f + j)) (M' / K ^ (f + j)) := by
  intro j
  induction j with
  | zero => exact ⟨n, n', h1, h2, h3, Nat.mod_eq_of_lt h1, Nat.mod_eq_of_lt h2, h4⟩
  | succ j ih =>
    obtain ⟨M, M', a1, a2, a3, a4, a5, a6⟩ := ih
    obtain ⟨x', y', ⟨u, w, g1, g2, g3, g4, g5, g6, g7⟩, g8⟩ := T9_bw hR hS a6
    have e1 := ext_bw hR g1 a1 g6
    have e2 := ext_bw hR g2 a2 g7
    have hd : K ^ (W - 1 + f) ∣ K ^ (W - 1 + (f + j)) := Nat.pow_dvd_pow K (by omega)
    refine ⟨_, _, e1.1, e2.1, fun i hi => ?_, ?_, ?_, ?_⟩
    · by_cases q : i = f + j
      · rw [q, e1.2.2.1, e2.2.2.1]; exact g5
      · rw [e1.2.1 i (by omega), e2.2.1 i (by omega)]; exact a3 i (by omega)
    · rw [← Nat.mod_mod_of_dvd _ hd, e1.2.2.2.2]; exact a4
    · rw [← Nat.mod_mod_of_dvd _ hd, e2.2.2.2.2]; exact a5
    · show T9 K W S (_ / K ^ (f + j + 1)) (_ / K ^ (f + j + 1))
      rw [e1.2.2.2.1, e2.2.2.2.1, g3, g4]; exact g8
theorem digit_ne (hK : 2 ≤ K) : ∀ m x y, x < K ^ m → y < K ^ m → x ≠ y → ∃ q, q < m ∧ x / K ^ q % K ≠ y / K ^ q % K
  | 0, x, y, h1, h2, h3 => by rw [Nat.pow_zero] at h1 h2; omega
  | m + 1, x, y, h1, h2, h3 => by
    by_cases e : x % K = y % K
    · have hd : x / K ≠ y / K := fun q => h3 (by rw [← Nat.div_add_mod x K, ← Nat.div_add_mod y K, q, e])
      rw [Nat.pow_succ, Nat.mul_comm] at h1 h2
      obtain ⟨q, hq, h⟩ := digit_ne hK m (x / K) (y / K) (Nat.div_lt_of_lt_mul h1) (Nat.div_lt_of_lt_mul h2) hd
      refine ⟨q + 1, by omega, ?_⟩
      rw [Nat.pow_succ, Nat.mul_comm, ← Nat.div_div_eq_div_mul, ← Nat.div_div_eq_div_mul]
      exact h
    · exact ⟨0, by omega, by rw [Nat.pow_zero, Nat.div_one, Nat.div_one]; exact e⟩
theorem told_ij (hR : okR K W tb) {u p : Nat} (hu : 1 ≤ u) (hp : p ≤ u + W - 2) (ht : told K W tb u p) : ij K W tb := by
  have hK2 := hR.1
  have hW1 := hR.2.2.1
  apply Classical.byContradiction
  intro hno
  have hDl : dD K W tb ∨ lF K W tb := by
    by_cases h1 : dD K W tb
    · exact Or.inl h1
    · by_cases h2 : lF K W tb
      · exact Or.inr h2
      · exact absurd ⟨h1, h2⟩ hno
  by_cases hW : 2 ≤ W
  · obtain ⟨S, ⟨x, y, hxy⟩, hS⟩ := (lR_iff hR hW).mpr hDl
    have hS : two K W tb S := hS
    obtain ⟨a1, a2, a3, -⟩ := hS x y hxy
    obtain ⟨q, hq, hd⟩ := digit_ne hK2 (W - 1) x y a1 a2 a3
    obtain ⟨n, n', b1, b2, b3, b4, b5, b6⟩ := rows_fw hR hS (show T9 K W S x y from ⟨a1, a2, Or.inr hxy⟩) (u + W)
    obtain ⟨M, M', c1, c2, c3, c4, c5, c6⟩ := rows_bw hR hS b1 b2 b3 (by rw [b4, b5]; exact ⟨a1, a2, Or.inr hxy⟩) (u + W)
    have dig : ∀ M n x, M % K ^ (W - 1 + (u + W)) = n → n / K ^ (u + W) = x → M / K ^ (u + W + q) % K = x / K ^ q % K := by
      intro M n x e1 e2
      have z := cut9 hK2 M 0 (W - 1 + (u + W)) (u + W + q) 1 (by omega)
      rw [Nat.pow_zero, Nat.div_one, e1, Nat.zero_add, Nat.pow_one] at z
      rw [← z, ← e2, Nat.div_div_eq_div_mul, ← Nat.pow_add]
    have hcw : u + W + q - (u + W - 2 - p) + u ≤ u + W + (u + W) := by omega
    have hcp : u + W + q - (u + W - 2 - p) + (u + W - 2 - p) = u + W + q := by omega
    have pos : 0 < K ^ (u + W - 1) := Nat.pow_pos (by omega)
    have z := ht (M / K ^ (u + W + q - (u + W - 2 - p)) % K ^ (u + W - 1)) (M' / K ^ (u + W + q - (u + W - 2 - p)) % K ^ (u + W - 1)) (Nat.mod_lt _ pos) (Nat.mod_lt _ pos) (md_same u (sm_cut hK2 hW1 c3 hcw))
    unfold dg at z
    have k1 := cut9 hK2 M (u + W + q - (u + W - 2 - p)) (u + W - 1) (u + W - 2 - p) 1 (by omega)
    have k2 := cut9 hK2 M' (u + W + q - (u + W - 2 - p)) (u + W - 1) (u + W - 2 - p) 1 (by omega)
    rw [Nat.pow_one, hcp] at k1 k2
    rw [k1, k2, dig M n x c4 b4, dig M' n' y c5 b5] at z
    exact hd z
  · have e : W = 1 := by omega
    subst e
    have hD : dD K 1 tb := hDl.elim id (fun h => absurd h lF_1)
    obtain ⟨a, b, h1, h2, h3⟩ := (dD_1 hR).mp hD
    have key : ∀ a i, a < K → (a * K ^ (u + 1 - 2 - p)) / K ^ i % K = if i = u + 1 - 2 - p then a else 0 := by
      intro a i ha
      by_cases e : i = u + 1 - 2 - p
      · rw [if_pos e, e, Nat.mul_div_cancel _ (Nat.pow_pos (by omega)), Nat.mod_eq_of_lt ha]
      · rw [if_neg e]
        rcases Nat.lt_or_gt_of_ne e with q | q
        · have e2 : K ^ (u + 1 - 2 - p) = K ^ (u + 1 - 2 - p - i - 1) * K * K ^ i := by
            rw [← Nat.pow_succ, ← Nat.pow_add]; congr 1; omega
          rw [e2, ← Nat.mul_assoc, Nat.mul_div_cancel _ (Nat.pow_pos (by omega)), ← Nat.mul_assoc, Nat.mul_mod_left]
        · have e2 : K ^ i = K ^ (u + 1 - 2 - p) * K ^ (i - (u + 1 - 2 - p)) := by rw [← Nat.pow_add]; congr 1; omega
          rw [e2, ← Nat.div_div_eq_div_mul, Nat.mul_div_cancel _ (Nat.pow_pos (by omega)), Nat.div_eq_of_lt, Nat.zero_mod]
          have : K ^ 1 ≤ K ^ (i - (u + 1 - 2 - p)) := Nat.pow_le_pow_right (by omega) (by omega)
          rw [Nat.pow_one] at this
          omega
    have lt : ∀ a, a < K → a * K ^ (u + 1 - 2 - p) < K ^ (u + 1 - 1) := fun a ha => by
      have g1 : (a + 1) * K ^ (u + 1 - 2 - p) ≤ K * K ^ (u + 1 - 2 - p) := Nat.mul_le_mul_right _ ha
      rw [Nat.succ_mul] at g1
      have g2 : K * K ^ (u + 1 - 2 - p) ≤ K ^ (u + 1 - 1) := by
        rw [Nat.mul_comm, ← Nat.pow_succ]
        exact Nat.pow_le_pow_right (by omega) (by omega)
      have g3 : 0 < K ^ (u + 1 - 2 - p) := Nat.pow_pos (by omega)
      omega
    have z := ht (a * K ^ (u + 1 - 2 - p)) (b * K ^ (u + 1 - 2 - p)) (lt a (by omega)) (lt b h2) (md_same u (fun i hi => by
      rw [Nat.pow_one, key a i (by omega), key b i h2]
      by_cases e : i = u + 1 - 2 - p
      · rw [if_pos e, if_pos e]; exact h3
      · rw [if_neg e, if_neg e]))
    unfold dg at z
    rw [key a _ (by omega), key b _ h2, if_pos rfl, if_pos rfl] at z
    omega
end TE
