/-! Sets of nodes as longs. -/
def bt (x : Int64) (i : Nat) : Bool := x.toBitVec.getLsbD i
theorem bt_or (x y : Int64) (i : Nat) : bt (x ||| y) i = (bt x i || bt y i) := by simp [bt]
theorem bt_and (x y : Int64) (i : Nat) : bt (x &&& y) i = (bt x i && bt y i) := by simp [bt]
theorem bt_xor (x y : Int64) (i : Nat) : bt (x ^^^ y) i = (bt x i ^^ bt y i) := by simp [bt]
theorem bt_0 (i : Nat) : bt 0 i = false := by simp [bt]
theorem bt_big {x : Int64} {i : Nat} (h : 64 ≤ i) : bt x i = false := BitVec.getLsbD_of_ge _ _ h
theorem bt_m1 : ∀ i, i < 64 → bt (-1) i = true := by decide +kernel
theorem bt_ext {x y : Int64} (h : ∀ i, i < 64 → bt x i = bt y i) : x = y := by
  apply Int64.toBitVec_inj.mp
  apply BitVec.eq_of_getLsbD_eq
  intro i hi
  exact h i hi
theorem bt_eq0 {x : Int64} : x = 0 ↔ ∀ i, i < 64 → bt x i = false := by
  constructor
  · intro h i _; rw [h]; exact bt_0 i
  · intro h; exact bt_ext (fun i hi => by rw [h i hi, bt_0])
theorem bt_ne0 {x : Int64} : ¬ x = 0 ↔ ∃ i, i < 64 ∧ bt x i = true := by
  rw [bt_eq0]
  constructor
  · intro h
    apply Classical.byContradiction
    intro hn
    apply h
    intro i hi
    cases hb : bt x i with
    | false => rfl
    | true => exact absurd ⟨i, hi, hb⟩ hn
  · rintro ⟨i, hi, hb⟩ h
    rw [h i hi] at hb
    cases hb
theorem bt_one : ∀ k, k < 64 → ∀ i, i < 64 → bt (jS 1 (nI k)) i = decide (i = k) := by decide +kernel
theorem bt_all : ∀ k, k < 64 → ∀ i, i < 64 → bt (jS 1 (nI k) - 1) i = decide (i < k) := by decide +kernel
theorem jU_bv (x : Int64) {k : Nat} (hk : k < 64) : (jU x (nI k)).toBitVec = x.toBitVec >>> k := by
  have h1 : ∀ k, k < 64 → ((nI k).toInt64.toUInt64 &&& Int64.toUInt64 63) = UInt64.ofNat k := by decide +kernel
  have h2 : (UInt64.ofNat k).toBitVec.toNat = k := by
    show (BitVec.ofNat 64 k).toNat = k
    rw [BitVec.toNat_ofNat]
    exact Nat.mod_eq_of_lt (by omega)
  unfold jU
  rw [h1 k hk]
  show (x.toUInt64 >>> UInt64.ofNat k).toBitVec = _
  rw [UInt64.toBitVec_shiftRight]
  show x.toBitVec >>> ((UInt64.ofNat k).toBitVec % 64) = _
  rw [BitVec.ushiftRight_eq', BitVec.toNat_umod, h2]
  show x.toBitVec >>> (k % 64) = _
  rw [Nat.mod_eq_of_lt hk]
theorem bt_1 : ∀ i, i < 64 → bt 1 i = decide (i = 0) := by decide +kernel
theorem and1 {x : Int64} : (x &&& 1 = 0 ↔ bt x 0 = false) ∧ (x &&& 1 = 1 ↔ bt x 0 = true) := by
  have h0 : ∀ b : Bool, bt x 0 = b → x &&& 1 = if b then 1 else 0 := by
    intro b hb
    apply bt_ext
    intro i hi
    rw [bt_and, bt_1 i hi]
    by_cases h : i = 0
    · subst h
      rw [hb]
      cases b <;> decide
    · cases b <;> simp [h, bt_0, bt_1 i hi]
  cases hb : bt x 0 with
  | false =>
    have := h0 false hb
    simp only [Bool.false_eq_true, if_false] at this
    rw [this]
    exact ⟨⟨fun _ => rfl, fun _ => rfl⟩, ⟨fun h => absurd h (by decide), fun h => by cases h⟩⟩
  | true =>
    have := h0 true hb
    simp only [if_true] at this
    rw [this]
    exact ⟨⟨fun h => absurd h (by decide), fun h => by cases h⟩, ⟨fun _ => rfl, fun _ => rfl⟩⟩
theorem jU_bit (x : Int64) {k : Nat} (hk : k < 64) : jU x (nI k) &&& 1 = 0 ↔ bt x k = false := by
  rw [and1.1]
  show (jU x (nI k)).toBitVec.getLsbD 0 = false ↔ _
  rw [jU_bv x hk, BitVec.getLsbD_ushiftRight, Nat.add_zero]
  exact Iff.rfl
theorem jA_bv (x : Int64) {k : Nat} (hk : k < 64) : (jA x (nI k)).toBitVec = x.toBitVec.sshiftRight k := by
  have h1 : ∀ k, k < 64 → ((nI k).toInt64 &&& 63).toBitVec.smod 64 = BitVec.ofNat 64 k := by decide +kernel
  unfold jA
  rw [Int64.toBitVec_shiftRight]
  show x.toBitVec.sshiftRight' (((nI k).toInt64 &&& 63).toBitVec.smod 64) = _
  rw [h1 k hk]
  show x.toBitVec.sshiftRight (BitVec.ofNat 64 k).toNat = _
  rw [BitVec.toNat_ofNat, Nat.mod_eq_of_lt (by omega)]
theorem jA_bit (x : Int64) {k : Nat} (hk : k < 64) : (jA x (nI k) &&& 1 = 1 ↔ bt x k = true) ∧ (jA x (nI k) &&& 1 = 0 ↔ bt x k = false) := by
  rw [and1.2, and1.1]
  have e : bt (jA x (nI k)) 0 = bt x k := by
    show (jA x (nI k)).toBitVec.getLsbD 0 = _
    rw [jA_bv x hk, BitVec.getLsbD_sshiftRight]
    simp [bt, hk]
  rw [e]
  exact ⟨Iff.rfl, Iff.rfl⟩
