/-! A text as a rule: where its fault is, or what its table is; the class finds both. -/
def hK (tx : Nat → Nat) : Nat := tx 0 - 48
def hW (tx : Nat → Nat) : Nat := tx 1 - 48
def dgF (tx : Nat → Nat) (sz K e : Nat) : Nat → Nat → Option Nat
  | 0, _ => if e < sz then some e else none
  | k + 1, i => if sz ≤ i ∨ tx i < 48 ∨ 48 + K ≤ tx i then some i else dgF tx sz K e k (i + 1)
def ds (K n : Nat) : Nat → Nat
  | 0 => 0
  | j + 1 => ds K n j + n / K ^ j % K
def rdF (tx : Nat → Nat) (sz : Nat) : Option Nat :=
  if sz < 1 ∨ tx 0 < 50 ∨ 52 < tx 0 then some 0
  else if sz < 2 ∨ tx 1 < 49 ∨ 52 < tx 1 then some 1
  else if sz < 3 ∨ (tx 2 ≠ 84 ∧ tx 2 ≠ 83 ∧ tx 2 ≠ 69) then some 2
  else if tx 2 = 84 then dgF tx sz (hK tx) (3 + hK tx ^ hW tx) (hK tx ^ hW tx) 3
  else if tx 2 = 83 then dgF tx sz (hK tx) (3 + (hW tx * (hK tx - 1) + 1)) (hW tx * (hK tx - 1) + 1) 3
  else (rX (hK tx) (hW tx) tx sz).1
def rdT (tx : Nat → Nat) (sz n : Nat) : Nat := if tx 2 = 84 then tx (3 + n) - 48 else if tx 2 = 83 then tx (3 + ds (hK tx) n (hW tx)) - 48 else (rX (hK tx) (hW tx) tx sz).2 n
def oI (o : Option Nat) : Int32 := match o with
  | none => -1
  | some q => nI q
theorem dgF_none {tx : Nat → Nat} {sz K e : Nat} : ∀ k i, i + k = e → dgF tx sz K e k i = none → (∀ j, i ≤ j → j < e → j < sz ∧ 48 ≤ tx j ∧ tx j < 48 + K) ∧ sz ≤ e
  | 0, i, hi, h => by
    have h : (if e < sz then some e else none) = none := h
    by_cases q : e < sz
    · rw [if_pos q] at h; exact absurd h (by simp)
    · exact ⟨fun j h1 h2 => by omega, by omega⟩
  | k + 1, i, hi, h => by
    have h : (if sz ≤ i ∨ tx i < 48 ∨ 48 + K ≤ tx i then some i else dgF tx sz K e k (i + 1)) = none := h
    by_cases q : sz ≤ i ∨ tx i < 48 ∨ 48 + K ≤ tx i
    · rw [if_pos q] at h; exact absurd h (by simp)
    · rw [if_neg q] at h
      obtain ⟨a, b⟩ := dgF_none k (i + 1) (by omega) h
      refine ⟨fun j h1 h2 => ?_, b⟩
      by_cases z : j = i
      · subst z; omega
      · exact a j (by omega) h2
theorem ds_le {K n : Nat} (hK : 1 ≤ K) : ∀ j, ds K n j ≤ j * (K - 1)
  | 0 => Nat.zero_le _
  | j + 1 => by
    have ih := ds_le (n := n) hK j
    have : n / K ^ j % K < K := Nat.mod_lt _ (by omega)
    show ds K n j + n / K ^ j % K ≤ _
    rw [Nat.add_mul]
    omega
theorem ds_end {K n j : Nat} (h : n / K ^ j = 0) : ∀ W, j ≤ W → ds K n W = ds K n j
  | 0, hj => by rw [show j = 0 by omega]
  | W + 1, hj => by
    rcases (show j = W + 1 ∨ j ≤ W by omega) with e | e
    · rw [e]
    · have ih := ds_end h W e
      show ds K n W + n / K ^ W % K = _
      have : n / K ^ W = 0 := by
        have hw : K ^ W = K ^ j * K ^ (W - j) := by rw [← Nat.pow_add, show j + (W - j) = W by omega]
        rw [hw, ← Nat.div_div_eq_div_mul, h, Nat.zero_div]
      rw [this, ih, Nat.zero_mod, Nat.add_zero]
theorem fit_ch : ∀ c, c < 128 → fits .char (.int (nI c)) = true := by decide +kernel
/-- what a right text says -/
theorem rdF_head {tx : Nat → Nat} {sz : Nat} (hsz : sz ≤ 64) (htx : ∀ j, j < sz → 32 ≤ tx j ∧ tx j ≤ 126) (h1 : ¬ (sz < 1 ∨ tx 0 < 50 ∨ 52 < tx 0)) (h2 : ¬ (sz < 2 ∨ tx 1 < 49 ∨ 52 < tx 1)) : tOk (hK tx) (hW tx) tx sz := by
  unfold hK hW
  exact ⟨by omega, by omega, by omega, by omega, hsz, htx⟩
abbrev fTx (σ σ' : gs_S) : Prop := sX (fun k j => (k = 1 ∧ 3 ≤ j ∧ j ≤ 8) ∨ k = 3) σ σ'
section K36
variable {l : Launch} {v : gs_V} {n : Nat} {σ : gs_S} {tx : Nat → Nat} {sz : Nat}
theorem k_fitsHead {post : Int32 → gs_S → Prop} {i c : Nat} (hc : c < 128) (hi : i < 3) (h1 : (i = 0 ∧ 50 ≤ c ∧ c ≤ 52 ∨ i = 1 ∧ 49 ≤ c ∧ c ≤ 52 ∨ i = 2 ∧ (c = 84 ∨ c = 83 ∨ c = 69)) → post 1 σ) (h0 : ¬ (i = 0 ∧ 50 ≤ c ∧ c ≤ 52 ∨ i = 1 ∧ 49 ≤ c ∧ c ≤ 52 ∨ i = 2 ∧ (c = 84 ∨ c = 83 ∨ c = 69)) → post 0 σ) : gM l v lyC 42 me_T_fitsHead (n + 1) [.ref (v.2.2 1), .int (nI i), .int (nI c)] σ (qI v lyC 42 post) := by
  refine E_T_fitsHead (T_T_fitsHead_0 ?_)
  rw [show (nI i = 0 ↔ i = 0) from nI_nat (b := 0) (by omega) (by decide), show (nI i = 1 ↔ i = 1) from nI_nat (b := 1) (by omega) (by decide), show (50 : Int32) = nI 50 from rfl, show (52 : Int32) = nI 52 from rfl, show (49 : Int32) = nI 49 from rfl, show (84 : Int32) = nI 84 from rfl, show (83 : Int32) = nI 83 from rfl, show (69 : Int32) = nI 69 from rfl, nI_ltI (a := c) (by omega) (by omega), nI_ltI (b := c) (by omega) (by omega), nI_ltI (a := c) (by omega) (by omega), chq hc (d := 84) (by decide), chq hc (d := 83) (by decide), chq hc (d := 69) (by decide)]
  refine ⟨fun e => ⟨fun q => T_T_fitsHead_44 (T_T_fitsHead_45 ⟨nar_b0, h0 (by omega)⟩), fun q => ⟨fun q2 => T_T_fitsHead_44 (T_T_fitsHead_45 ⟨nar_b0, h0 (by omega)⟩), fun q2 => T_T_fitsHead_45 ⟨nar_b1, h1 (by omega)⟩⟩⟩, fun e => ⟨fun q => T_T_fitsHead_62 (T_T_fitsHead_63 ⟨nar_b0, h0 (by omega)⟩), fun q => ⟨fun q2 => T_T_fitsHead_62 (T_T_fitsHead_63 ⟨nar_b0, h0 (by omega)⟩), fun q2 => T_T_fitsHead_63 ⟨nar_b1, h1 (by omega)⟩⟩⟩, fun e e' => ⟨fun q => T_T_fitsHead_82 (T_T_fitsHead_87 ⟨nar_b1, h1 (by omega)⟩), fun q => ⟨fun q2 => T_T_fitsHead_82 (T_T_fitsHead_87 ⟨nar_b1, h1 (by omega)⟩), fun q2 => ⟨fun q3 => T_T_fitsHead_87 ⟨nar_b0, h0 (by omega)⟩, fun q3 => T_T_fitsHead_82 (T_T_fitsHead_87 ⟨nar_b1, h1 (by omega)⟩)⟩⟩⟩⟩
theorem k_digitsFault {post : Int32 → gs_S → Prop} {K cnt : Nat} (hK : K ≤ 4) (hsz : sz ≤ 64) (h3 : 3 ≤ sz) (htx : ∀ j, j < sz → 32 ≤ tx j ∧ tx j ≤ 126) (hcnt : cnt ≤ 256) (e2 : σ.1 1 2 = nI sz) (e3 : σ.1 1 3 = nI K) (et : ∀ j, j < sz → σ.1 2 j = nI (tx j)) (hp : post (oI (dgF tx sz K (3 + cnt) cnt 3)) σ) : gM l v lyC 42 me_T_digitsFault (n + 1) [.ref (v.2.2 1), .int (nI cnt)] σ (qI v lyC 42 post) := by
  have L : ∀ k i, i + k = 3 + cnt → i ≤ sz → dgF tx sz K (3 + cnt) k i = dgF tx sz K (3 + cnt) cnt 3 → G_T_digitsFault_6 l v n post σ (nI (3 + cnt)) (nI i) := by
    intro k
    induction k with
    | zero =>
      intro i hi hs hE
      have hE : (if 3 + cnt < sz then some (3 + cnt) else none) = dgF tx sz K (3 + cnt) cnt 3 := hE
      refine T_T_digitsFault_6 (br_t (nI_le (by omega) (by omega)) ?_)
      rw [e2, nI_leI (by omega) (by omega)]
      refine ⟨fun q => T_T_digitsFault_67 ?_, fun q => T_T_digitsFault_67 ?_⟩
      · rw [← hE, if_neg (by omega)] at hp; exact hp
      · rw [← hE, if_pos (by omega)] at hp; exact hp
    | succ k ih =>
      intro i hi hs hE
      have hE : (if sz ≤ i ∨ tx i < 48 ∨ 48 + K ≤ tx i then some i else dgF tx sz K (3 + cnt) k (i + 1)) = dgF tx sz K (3 + cnt) cnt 3 := hE
      have bad : (sz ≤ i ∨ tx i < 48 ∨ 48 + K ≤ tx i) → G_T_digitsFault_46 l v n post σ (nI i) := fun q => by
        rw [← hE, if_pos q] at hp
        exact T_T_digitsFault_46 hp
      refine T_T_digitsFault_6 (br_f (nI_ge (by omega) (by omega)) ?_)
      rw [e2, nI_leI (by omega) (by omega)]
      refine ⟨fun q => bad (Or.inl q), fun q => ⟨vp_in_nI (by omega) (by decide), ?_⟩⟩
      have hc := htx i (by omega)
      rw [nI_clamp (by omega), et i (by omega), e3, show (48 : Int32) = nI 48 from rfl, nI_add, nI_ltI (by omega) (by omega), nI_ltI (by omega) (by omega)]
      refine ⟨fun q2 => bad (Or.inr (Or.inl q2)), fun q2 => ⟨vp_in_nI (by omega) (by decide), fun q3 => ?_, fun q3 => bad (Or.inr (Or.inr (by omega)))⟩⟩
      rw [if_neg (by omega)] at hE
      rw [nI_1]
      exact ih (i + 1) (by omega) (by omega) hE
  refine E_T_digitsFault (T_T_digitsFault_0 ?_)
  rw [show (3 : Int32) = nI 3 from rfl, nI_add]
  exact L cnt 3 (by omega) h3 rfl
theorem k_fault {post : Int32 → gs_S → Prop} (hsz : sz ≤ 64) (htx : ∀ j, j < sz → 32 ≤ tx j ∧ tx j ≤ 126) (e2 : σ.1 1 2 = nI sz) (et : ∀ j, j < sz → σ.1 2 j = nI (tx j)) (hp : ∀ τ, fTx σ τ → (rdF tx sz = none → tOk (hK tx) (hW tx) tx sz ∧ 3 ≤ sz ∧ τ.1 1 3 = nI (hK tx) ∧ τ.1 1 4 = nI (hW tx) ∧ τ.1 1 5 = nI (tx 2)) → post (oI (rdF tx sz)) τ) : gM l v lyC 42 me_T_fault (n + 53) [.ref (v.2.2 1)] σ (qI v lyC 42 post) := by
  refine E_T_fault (T_T_fault_0 ?_)
  by_cases c0 : sz < 1 ∨ tx 0 < 50 ∨ 52 < tx 0
  · have hr : rdF tx sz = some 0 := by unfold rdF; rw [if_pos c0]
    rw [hr] at hp
    have out := hp σ sX.rf (fun z => absurd z (by simp))
    refine T_T_fault_2 (br_f (by decide) ?_)
    rw [e2, show (nI sz ≤ 0 ↔ sz ≤ 0) from nI_leI (b := 0) (by omega) (by decide)]
    refine ⟨fun q => T_T_fault_29 out, fun q => ⟨vp_in_nI (n := 0) (by decide) (by decide), ?_⟩⟩
    have hc := htx 0 (by omega)
    rw [show (0 : Int32).toNatClampNeg = 0 from rfl, et 0 (by omega)]
    exact k_fitsHead (n := n + 51) (i := 0) (by omega) (by decide) (fun z => by omega) (fun z => br_f' rfl (T_T_fault_29 out))
  · have hc0 := htx 0 (by omega)
    refine T_T_fault_2 (br_f (by decide) ?_)
    rw [e2, show (nI sz ≤ 0 ↔ sz ≤ 0) from nI_leI (b := 0) (by omega) (by decide)]
    refine br_f (by omega) ⟨vp_in_nI (n := 0) (by decide) (by decide), ?_⟩
    rw [show (0 : Int32).toNatClampNeg = 0 from rfl, et 0 (by omega)]
    refine k_fitsHead (n := n + 51) (i := 0) (by omega) (by decide) (fun _ => br_t' (by decide) ?_) (fun z => absurd (Or.inl ⟨rfl, by omega, by omega⟩) z)
    by_cases c1 : sz < 2 ∨ tx 1 < 49 ∨ 52 < tx 1
    · have hr : rdF tx sz = some 1 := by unfold rdF; rw [if_neg c0, if_pos c1]
      rw [hr] at hp
      have out := hp σ sX.rf (fun z => absurd z (by simp))
      refine T_T_fault_2 (br_f (by decide) ?_)
      rw [e2, show (nI sz ≤ 0 + 1 ↔ sz ≤ 1) from nI_leI (b := 1) (by omega) (by decide)]
      refine ⟨fun q => T_T_fault_29 out, fun q => ⟨vp_in_nI (n := 1) (by decide) (by decide), ?_⟩⟩
      have hc := htx 1 (by omega)
      rw [show ((0 : Int32) + 1).toNatClampNeg = 1 from rfl, et 1 (by omega)]
      exact k_fitsHead (n := n + 51) (i := 1) (by omega) (by decide) (fun z => by omega) (fun z => br_f' rfl (T_T_fault_29 out))
    · have hc1 := htx 1 (by omega)
      have hk := rdF_head hsz htx c0 c1
      refine T_T_fault_2 (br_f (by decide) ?_)
      rw [e2, show (nI sz ≤ 0 + 1 ↔ sz ≤ 1) from nI_leI (b := 1) (by omega) (by decide)]
      refine br_f (by omega) ⟨vp_in_nI (n := 1) (by decide) (by decide), ?_⟩
      rw [show ((0 : Int32) + 1).toNatClampNeg = 1 from rfl, et 1 (by omega)]
      refine k_fitsHead (n := n + 51) (i := 1) (by omega) (by decide) (fun _ => br_t' (by decide) ?_) (fun z => absurd (Or.inr (Or.inl ⟨rfl, by omega, by omega⟩)) z)
      by_cases c2 : sz < 3 ∨ (tx 2 ≠ 84 ∧ tx 2 ≠ 83 ∧ tx 2 ≠ 69)
      · have hr : rdF tx sz = some 2 := by unfold rdF; rw [if_neg c0, if_neg c1, if_pos c2]
        rw [hr] at hp
        have out := hp σ sX.rf (fun z => absurd z (by simp))
        refine T_T_fault_2 (br_f (by decide) ?_)
        rw [e2, show (nI sz ≤ 0 + 1 + 1 ↔ sz ≤ 2) from nI_leI (b := 2) (by omega) (by decide)]
        refine ⟨fun q => T_T_fault_29 out, fun q => ⟨vp_in_nI (n := 2) (by decide) (by decide), ?_⟩⟩
        have hc := htx 2 (by omega)
        rw [show ((0 : Int32) + 1 + 1).toNatClampNeg = 2 from rfl, et 2 (by omega)]
        exact k_fitsHead (n := n + 51) (i := 2) (by omega) (by decide) (fun z => by omega) (fun z => br_f' rfl (T_T_fault_29 out))
      · have hc2 := htx 2 (by omega)
        refine T_T_fault_2 (br_f (by decide) ?_)
        rw [e2, show (nI sz ≤ 0 + 1 + 1 ↔ sz ≤ 2) from nI_leI (b := 2) (by omega) (by decide)]
        refine br_f (by omega) ⟨vp_in_nI (n := 2) (by decide) (by decide), ?_⟩
        rw [show ((0 : Int32) + 1 + 1).toNatClampNeg = 2 from rfl, et 2 (by omega)]
        refine k_fitsHead (n := n + 51) (i := 2) (by omega) (by decide) (fun _ => br_t' (by decide) ?_) (fun z => absurd (Or.inr (Or.inr ⟨rfl, by omega⟩)) z)
        have h3 : 3 ≤ sz := by omega
        have hR : rdF tx sz = if tx 2 = 84 then dgF tx sz (hK tx) (3 + hK tx ^ hW tx) (hK tx ^ hW tx) 3 else if tx 2 = 83 then dgF tx sz (hK tx) (3 + (hW tx * (hK tx - 1) + 1)) (hW tx * (hK tx - 1) + 1) 3 else (rX (hK tx) (hW tx) tx sz).1 := by
          unfold rdF
          rw [if_neg c0, if_neg c1, if_neg c2]
        have eK : nI (tx 0) - 48 = nI (hK tx) := pk_sub (a := tx 0) (b := 48) (by omega)
        have eW : nI (tx 1) - 48 = nI (hW tx) := pk_sub (a := tx 1) (b := 48) (by omega)
        have eK1 : nI (hK tx) - 1 = nI (hK tx - 1) := pk_sub (a := hK tx) (b := 1) (by have := hk.1; omega)
        refine T_T_fault_2 (br_t (by decide) ?_)
        rw [et 0 (by omega), et 1 (by omega), et 2 (by omega), eK, eW, eK1, pk_mul, nI_1]
        have hX0 : fTx σ (gs_pI (gs_pI (gs_pI σ 1 3 (nI (hK tx))) 1 4 (nI (hW tx))) 1 5 (nI (tx 2))) := ((sX.rf.I (by omega)).I (by omega)).I (by omega)
        have g3 : (gs_pI (gs_pI (gs_pI σ 1 3 (nI (hK tx))) 1 4 (nI (hW tx))) 1 5 (nI (tx 2))).1 1 3 = nI (hK tx) := by rw [pI_j (by decide), pI_j (by decide), pI_eq]
        have g4 : (gs_pI (gs_pI (gs_pI σ 1 3 (nI (hK tx))) 1 4 (nI (hW tx))) 1 5 (nI (tx 2))).1 1 4 = nI (hW tx) := by rw [pI_j (by decide), pI_eq]
        have g5 : (gs_pI (gs_pI (gs_pI σ 1 3 (nI (hK tx))) 1 4 (nI (hW tx))) 1 5 (nI (tx 2))).1 1 5 = nI (tx 2) := pI_eq
        generalize gs_pI (gs_pI (gs_pI σ 1 3 (nI (hK tx))) 1 4 (nI (hW tx))) 1 5 (nI (tx 2)) = τ at hX0 g3 g4 g5 ⊢
        have g2 : τ.1 1 2 = nI sz := (hX0 1 2 (by omega)).1.trans e2
        have gt : ∀ j, j < sz → τ.1 2 j = nI (tx j) := fun j hj => (hX0 2 j (by omega)).1.trans (et j hj)
        have hK4 := hk.2.1
        have hW4 := hk.2.2.2.1
        have h256 := pw_le hK4 hW4
        have hcnt : hW tx * (hK tx - 1) + 1 ≤ 256 := by
          have : hW tx * (hK tx - 1) ≤ 4 * 3 := Nat.mul_le_mul hW4 (by omega)
          omega
        refine ⟨⟨nar_ch _ (by omega), fit_ch _ (by omega)⟩, fun e => ?_, fun e => ?_, fun n83 n84 => ?_⟩
        · have e := (chq (d := 83) (by omega) (by decide)).mp e
          rw [if_neg (by omega), if_pos e] at hR
          refine k_digitsFault (n := n + 51) hK4 hsz h3 htx hcnt g2 g3 gt ?_
          rw [← hR]
          exact hp τ hX0 (fun _ => ⟨hk, h3, g3, g4, g5⟩)
        · have e := (chq (d := 84) (by omega) (by decide)).mp e
          rw [if_pos e] at hR
          refine k_power (n := n + 51) (by omega) (k_digitsFault (n := n + 51) hK4 hsz h3 htx h256 g2 g3 gt ?_)
          rw [← hR]
          exact hp τ hX0 (fun _ => ⟨hk, h3, g3, g4, g5⟩)
        · have n83 := fun z => n83 ((chq (d := 83) (by omega) (by decide)).mpr z)
          have n84 := fun z => n84 ((chq (d := 84) (by omega) (by decide)).mpr z)
          rw [if_neg n84, if_neg n83] at hR
          refine k_valueFor (m := 0) hk h3 (Nat.pow_pos (by have := hk.1; omega)) g2 g3 g4 gt (fun x τ' hX' hO => ?_)
          have hXX : fTx σ τ' := hX0.tr (hX'.mono (fun k j h => by omega))
          have q3 : τ'.1 1 3 = nI (hK tx) := (hX' 1 3 (by omega)).1.trans g3
          have q4 : τ'.1 1 4 = nI (hW tx) := (hX' 1 4 (by omega)).1.trans g4
          have q5 : τ'.1 1 5 = nI (tx 2) := (hX' 1 5 (by omega)).1.trans g5
          have q2 : τ'.1 1 2 = nI sz := (hX' 1 2 (by omega)).1.trans g2
          have out := hp τ' hXX (fun _ => ⟨hk, h3, q3, q4, q5⟩)
          rw [hR] at out
          rcases hO with ⟨q, b1, b2, b3, b4⟩ | ⟨b1, b2, b3, b4, b5⟩
          · rw [b2] at out
            have fin : G_T_fault_162 l v (n + 52) post τ' := T_T_fault_162 (T_T_fault_170 (by rw [b3]; exact out))
            rcases b4 with b4 | ⟨b4, b5⟩
            · exact br_t' (by rw [b4]; decide) fin
            · exact br_f' b4 (br_f (by rw [q2, b3]; exact nI_ge b5 (by omega)) fin)
          · rw [b1] at out
            exact br_f' b2 (br_t (by rw [q2, b3]; exact nI_le (Nat.le_refl _) (by omega)) (T_T_fault_170 out))
theorem k_sumOf {post : Int32 → gs_S → Prop} {K W w : Nat} (hK2 : 2 ≤ K) (hK4 : K ≤ 4) (hW4 : W ≤ 4) (hw : w < 256) (e3 : σ.1 1 3 = nI K) (e4 : σ.1 1 4 = nI W) (hp : post (nI (ds K w W)) σ) : gM l v lyC 42 me_T_sumOf (n + 1) [.ref (v.2.2 1), .int (nI w)] σ (qI v lyC 42 post) := by
  have L : ∀ i, i ≤ W → G_T_sumOf_7 l v n post σ (nI (ds K w i)) (nI (w / K ^ i)) (nI i) := by
    refine dn ?_ ?_
    · exact T_T_sumOf_7 (br_t (by rw [e4]; exact nI_le (Nat.le_refl _) (by omega)) hp)
    · intro i hi ih
      have hd : w / K ^ i ≤ w := Nat.div_le_self _ _
      refine T_T_sumOf_7 (br_f (by rw [e4]; exact nI_ge hi (by omega)) ?_)
      rw [e3, jR_n (by omega) (by omega) (by omega), nI_add, pk_div (by omega) (by omega) (by omega), Nat.div_div_eq_div_mul, ← Nat.pow_succ, nI_1]
      exact ⟨nI_ne0 (by omega) (by omega), nI_ne0 (by omega) (by omega), ih⟩
  refine E_T_sumOf (T_T_sumOf_0 ?_)
  have := L 0 (Nat.zero_le _)
  rw [Nat.pow_zero, Nat.div_one] at this
  exact this
theorem k_fill {post : gs_S → Prop} (hN : rdF tx sz = none) (hk : tOk (hK tx) (hW tx) tx sz) (h3 : 3 ≤ sz) (e2 : σ.1 1 2 = nI sz) (e3 : σ.1 1 3 = nI (hK tx)) (e4 : σ.1 1 4 = nI (hW tx)) (e5 : σ.1 1 5 = nI (tx 2)) (et : ∀ j, j < sz → σ.1 2 j = nI (tx j)) (hp : ∀ σ', sX (fun k j => (k = 1 ∧ 6 ≤ j ∧ j ≤ 8) ∨ k = 3 ∨ (k = 4 ∧ 5 ≤ j ∧ j ≤ 9) ∨ (5 ≤ k ∧ k ≤ 9)) σ σ' → okR (hK tx) (hW tx) (rdT tx sz) → cR σ' (hK tx) (hW tx) (rdT tx sz) → σ'.1 4 5 = 1 → cF σ' (hK tx) (hW tx) (rdT tx sz) → cS σ' (hK tx) (hW tx) (rdT tx sz) → post σ') : gM l v lyC 42 me_T_fill (n + 54) [.ref (v.2.2 1), .ref (v.2.2 4)] σ (qV v lyC 42 post) := by
  have hk' := hk
  obtain ⟨hK2, hK4, hW1, hW4, hsz, htx⟩ := hk'
  have h256 := pw_le hK4 hW4
  have c0 : ¬ (sz < 1 ∨ tx 0 < 50 ∨ 52 < tx 0) := fun z => by unfold rdF at hN; rw [if_pos z] at hN; exact absurd hN (by simp)
  have c1 : ¬ (sz < 2 ∨ tx 1 < 49 ∨ 52 < tx 1) := fun z => by unfold rdF at hN; rw [if_neg c0, if_pos z] at hN; exact absurd hN (by simp)
  have c2 : ¬ (sz < 3 ∨ (tx 2 ≠ 84 ∧ tx 2 ≠ 83 ∧ tx 2 ≠ 69)) := fun z => by unfold rdF at hN; rw [if_neg c0, if_neg c1, if_pos z] at hN; exact absurd hN (by simp)
  have hR : (if tx 2 = 84 then dgF tx sz (hK tx) (3 + hK tx ^ hW tx) (hK tx ^ hW tx) 3 else if tx 2 = 83 then dgF tx sz (hK tx) (3 + (hW tx * (hK tx - 1) + 1)) (hW tx * (hK tx - 1) + 1) 3 else (rX (hK tx) (hW tx) tx sz).1) = none := by
    have := hN
    unfold rdF at this
    rw [if_neg c0, if_neg c1, if_neg c2] at this
    exact this
  have hc2 := htx 2 (by omega)
  refine E_T_fill (T_T_fill_0 ?_)
  rw [e3, e4]
  refine k_shape (n := n + 51) hK4 hW1 hW4 ?_
  have hX0 : sX (fun k j => (k = 1 ∧ 6 ≤ j ∧ j ≤ 8) ∨ k = 3 ∨ (k = 4 ∧ 5 ≤ j ∧ j ≤ 9) ∨ (5 ≤ k ∧ k ≤ 9)) σ (gs_pI (gs_pI (gs_pI (gs_pI σ 4 6 (nI (hK tx))) 4 7 (nI (hW tx))) 4 9 (nI (hK tx ^ (hW tx - 1)))) 4 8 (nI (hK tx ^ hW tx))) := (((sX.rf.I (by omega)).I (by omega)).I (by omega)).I (by omega)
  have g6 : (gs_pI (gs_pI (gs_pI (gs_pI σ 4 6 (nI (hK tx))) 4 7 (nI (hW tx))) 4 9 (nI (hK tx ^ (hW tx - 1)))) 4 8 (nI (hK tx ^ hW tx))).1 4 6 = nI (hK tx) := by rw [pI_j (by decide), pI_j (by decide), pI_j (by decide), pI_eq]
  have g7 : (gs_pI (gs_pI (gs_pI (gs_pI σ 4 6 (nI (hK tx))) 4 7 (nI (hW tx))) 4 9 (nI (hK tx ^ (hW tx - 1)))) 4 8 (nI (hK tx ^ hW tx))).1 4 7 = nI (hW tx) := by rw [pI_j (by decide), pI_j (by decide), pI_eq]
  have g9' : (gs_pI (gs_pI (gs_pI (gs_pI σ 4 6 (nI (hK tx))) 4 7 (nI (hW tx))) 4 9 (nI (hK tx ^ (hW tx - 1)))) 4 8 (nI (hK tx ^ hW tx))).1 4 9 = nI (hK tx ^ (hW tx - 1)) := by rw [pI_j (by decide), pI_eq]
  have g8 : (gs_pI (gs_pI (gs_pI (gs_pI σ 4 6 (nI (hK tx))) 4 7 (nI (hW tx))) 4 9 (nI (hK tx ^ (hW tx - 1)))) 4 8 (nI (hK tx ^ hW tx))).1 4 8 = nI (hK tx ^ hW tx) := pI_eq
  generalize gs_pI (gs_pI (gs_pI (gs_pI σ 4 6 (nI (hK tx))) 4 7 (nI (hW tx))) 4 9 (nI (hK tx ^ (hW tx - 1)))) 4 8 (nI (hK tx ^ hW tx)) = s1 at hX0 g6 g7 g8 g9' ⊢
  have L : ∀ w, w ≤ hK tx ^ hW tx → ∀ τ, sX (fun k j => (k = 1 ∧ 6 ≤ j ∧ j ≤ 8) ∨ k = 3 ∨ k = 5) s1 τ → (∀ j, j < w → τ.1 5 j = nI (rdT tx sz j) ∧ rdT tx sz j < hK tx) → G_T_fill_14 l v (n + 53) post τ (nI w) := by
    refine dn ?_ ?_
    · intro τ hX ht
      have hO : okR (hK tx) (hW tx) (rdT tx sz) := ⟨hK2, hK4, hW1, hW4, fun j hj => (ht j hj).2⟩
      have hC : cR τ (hK tx) (hW tx) (rdT tx sz) := ⟨(hX 4 6 (by omega)).1.trans g6, (hX 4 7 (by omega)).1.trans g7, (hX 4 8 (by omega)).1.trans g8, (hX 4 9 (by omega)).1.trans g9', fun j hj => (ht j hj).1⟩
      refine T_T_fill_14 (br_t (by rw [hC.2.2.1]; exact nI_le (Nat.le_refl _) (by omega)) (k_complete (n := n + 50) hO hC (fun σ' hX' a1 a2 a3 => hp σ' ((hX0.tr (hX.mono (fun k j h => by omega))).tr (hX'.mono (fun k j h => by omega))) hO ?_ a1 a2 a3)))
      exact ⟨(hX' 4 6 (by omega)).1.trans hC.1, (hX' 4 7 (by omega)).1.trans hC.2.1, (hX' 4 8 (by omega)).1.trans hC.2.2.1, (hX' 4 9 (by omega)).1.trans hC.2.2.2.1, fun j hj => (hX' 5 j (by omega)).1.trans (hC.2.2.2.2 j hj)⟩
    · intro w hw ih τ hX ht
      have f2 : τ.1 1 2 = nI sz := (hX 1 2 (by omega)).1.trans ((hX0 1 2 (by omega)).1.trans e2)
      have f3 : τ.1 1 3 = nI (hK tx) := (hX 1 3 (by omega)).1.trans ((hX0 1 3 (by omega)).1.trans e3)
      have f4 : τ.1 1 4 = nI (hW tx) := (hX 1 4 (by omega)).1.trans ((hX0 1 4 (by omega)).1.trans e4)
      have f5 : τ.1 1 5 = nI (tx 2) := (hX 1 5 (by omega)).1.trans ((hX0 1 5 (by omega)).1.trans e5)
      have ft : ∀ j, j < sz → τ.1 2 j = nI (tx j) := fun j hj => (hX 2 j (by omega)).1.trans ((hX0 2 j (by omega)).1.trans (et j hj))
      have nxt : ∀ τ' x, sX (fun k j => (k = 1 ∧ 6 ≤ j ∧ j ≤ 8) ∨ k = 3) τ τ' → x = nI (rdT tx sz w) → rdT tx sz w < hK tx → vp_in (nI w) 256 ∧ G_T_fill_14 l v (n + 53) post (gs_pI τ' 5 ((nI w).toNatClampNeg) x) (nI w + 1) := fun τ' x hX' hx hlt => by
        rw [nI_clamp (by omega), nI_1]
        refine ⟨vp_in_nI (by omega) (by decide), ih _ ((hX.tr (hX'.mono (fun k j h => by omega))).I (by omega)) (fun j hj => ?_)⟩
        by_cases z : j = w
        · subst z; rw [pI_eq]; exact ⟨hx, hlt⟩
        · rw [pI_j z, (hX' 5 j (by omega)).1]; exact ht j (by omega)
      refine T_T_fill_14 (br_f (by rw [(hX 4 8 (by omega)).1, g8]; exact nI_ge hw (by omega)) (E_T_made (T_T_made_0 ?_)))
      rw [f5, show (83 : Int32) = nI 83 from rfl, show (84 : Int32) = nI 84 from rfl, chq (by omega) (d := 83) (by decide), chq (by omega) (d := 84) (by decide), show (3 : Int32) = nI 3 from rfl]
      refine ⟨fun e => ?_, fun e => ?_, fun n83 n84 => ?_⟩
      · rw [if_neg (by omega), if_pos e] at hR
        obtain ⟨a, b⟩ := dgF_none _ _ (by omega) hR
        refine k_sumOf (n := n + 51) hK2 hK4 hW4 (by omega) f3 f4 ?_
        have hd := ds_le (n := w) (K := hK tx) (by omega) (hW tx)
        have a := a (3 + ds (hK tx) w (hW tx)) (by omega) (by omega)
        rw [nI_add, nI_clamp (n := 3 + ds (hK tx) w (hW tx)) (by omega), ft _ a.1, show (48 : Int32) = nI 48 from rfl, show nI (tx (3 + ds (hK tx) w (hW tx))) - nI 48 = nI (tx (3 + ds (hK tx) w (hW tx)) - 48) from pk_sub a.2.1]
        have er : rdT tx sz w = tx (3 + ds (hK tx) w (hW tx)) - 48 := by
          unfold rdT
          rw [if_neg (by omega), if_pos e]
        refine ⟨vp_in_nI (by omega) (by decide), nxt τ _ sX.rf (by rw [er]) (by omega)⟩
      · rw [if_pos e] at hR
        obtain ⟨a, b⟩ := dgF_none _ _ (by omega) hR
        have a := a (3 + w) (by omega) (by omega)
        rw [nI_add, nI_clamp (n := 3 + w) (by omega), ft _ a.1, show (48 : Int32) = nI 48 from rfl, show nI (tx (3 + w)) - nI 48 = nI (tx (3 + w) - 48) from pk_sub a.2.1]
        have er : rdT tx sz w = tx (3 + w) - 48 := by
          unfold rdT
          rw [if_pos e]
        refine ⟨vp_in_nI (by omega) (by decide), nxt τ _ sX.rf (by rw [er]) (by omega)⟩
      · rw [if_neg n84, if_neg n83] at hR
        have er : rdT tx sz w = (rX (hK tx) (hW tx) tx sz).2 w := by
          unfold rdT
          rw [if_neg n84, if_neg n83]
        refine k_valueFor (m := w) hk h3 hw f2 f3 f4 ft (fun x τ' hX' hO => ?_)
        rcases hO with ⟨q, _, b2, _⟩ | ⟨b1, b2, b3, b4, b5⟩
        · rw [hR] at b2; exact absurd b2 (by simp)
        · exact nxt τ' x (hX'.mono (fun k j h => by omega)) (by rw [er]; exact b4) (by rw [er]; exact b5)
  exact L 0 (Nat.zero_le _) s1 sX.rf (fun j hj => absurd hj (Nat.not_lt_zero _))
end K36
theorem dgF_le {tx : Nat → Nat} {sz K e : Nat} : ∀ k i q, i + k = e → dgF tx sz K e k i = some q → q ≤ e
  | 0, i, q, hi, h => by
    have h : (if e < sz then some e else none) = some q := h
    by_cases z : e < sz
    · rw [if_pos z] at h; have := Option.some.inj h; omega
    · rw [if_neg z] at h; exact absurd h (by simp)
  | k + 1, i, q, hi, h => by
    have h : (if sz ≤ i ∨ tx i < 48 ∨ 48 + K ≤ tx i then some i else dgF tx sz K e k (i + 1)) = some q := h
    by_cases z : sz ≤ i ∨ tx i < 48 ∨ 48 + K ≤ tx i
    · rw [if_pos z] at h; have := Option.some.inj h; omega
    · rw [if_neg z] at h; exact dgF_le k (i + 1) q (by omega) h
theorem rn_le {tx : Nat → Nat} {sz K W : Nat} : ∀ k d fs i q, i + k = sz → (rn K W tx sz k d fs i).1 = some q → q ≤ sz
  | 0, d, fs, i, q, hi, h => by
    have h : (fin K sz d fs).1 = some q := h
    cases fs with
    | nil => cases d <;> exact Nat.le_of_eq (Option.some.inj h).symm
    | cons f r =>
      cases d with
      | true => exact Nat.le_of_eq (Option.some.inj h).symm
      | false =>
        have h : (if (endC (f :: r) (vL K f 0)).2.2.2.length = 0 then none else some sz) = some q := h
        by_cases z : (endC (f :: r) (vL K f 0)).2.2.2.length = 0
        · rw [if_pos z] at h; exact absurd h (by simp)
        · rw [if_neg z] at h; exact Nat.le_of_eq (Option.some.inj h).symm
  | k + 1, d, fs, i, q, hi, h => by
    have h : (match mst K W (tx i) d fs with | none => ((some i, fun _ => 0) : Option Nat × Vl) | some (d', fs') => rn K W tx sz k d' fs' (i + 1)).1 = some q := h
    cases hm : mst K W (tx i) d fs with
    | none => rw [hm] at h; have := Option.some.inj h; omega
    | some p => rw [hm] at h; exact rn_le k p.1 p.2 (i + 1) q (by omega) h
theorem rdF_le {tx : Nat → Nat} {sz q : Nat} (hsz : sz ≤ 64) (htx : ∀ j, j < sz → 32 ≤ tx j ∧ tx j ≤ 126) (hq : rdF tx sz = some q) : q ≤ 300 := by
  unfold rdF at hq
  by_cases z0 : sz < 1 ∨ tx 0 < 50 ∨ 52 < tx 0
  · rw [if_pos z0] at hq; have := Option.some.inj hq; omega
  · rw [if_neg z0] at hq
    by_cases z1 : sz < 2 ∨ tx 1 < 49 ∨ 52 < tx 1
    · rw [if_pos z1] at hq; have := Option.some.inj hq; omega
    · rw [if_neg z1] at hq
      have hk := rdF_head hsz htx z0 z1
      have h256 := pw_le hk.2.1 hk.2.2.2.1
      by_cases z2 : sz < 3 ∨ (tx 2 ≠ 84 ∧ tx 2 ≠ 83 ∧ tx 2 ≠ 69)
      · rw [if_pos z2] at hq; have := Option.some.inj hq; omega
      · rw [if_neg z2] at hq
        by_cases z3 : tx 2 = 84
        · rw [if_pos z3] at hq
          have := dgF_le _ _ _ (by omega) hq
          omega
        · rw [if_neg z3] at hq
          by_cases z4 : tx 2 = 83
          · rw [if_pos z4] at hq
            have := dgF_le _ _ _ (by omega) hq
            have h12 : hW tx * (hK tx - 1) ≤ 4 * 3 := Nat.mul_le_mul hk.2.2.2.1 (by have := hk.2.1; omega)
            omega
          · rw [if_neg z4] at hq
            have := rn_le (sz - 3) _ _ 3 q (by omega) hq
            omega
