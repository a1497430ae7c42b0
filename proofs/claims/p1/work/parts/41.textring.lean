/-! The text, the ring: calls that need no rule. -/
theorem nI_rng {x : Int32} {a b : Nat} {A B : Int32} (hA : A.toInt = a) (hB : B.toInt = b) (h1 : ¬ x < A) (h2 : x ≤ B) : ∃ c : Nat, a ≤ c ∧ c ≤ b ∧ x = nI c := by
  rw [Int32.lt_iff_toInt_lt] at h1
  rw [Int32.le_iff_toInt_le] at h2
  have hm := x.toInt_lt
  refine ⟨x.toInt.toNat, by omega, by omega, ?_⟩
  apply Int32.toInt_inj.mp
  rw [nI_toInt (by omega)]
  omega
theorem nar_c {c : Nat} (h : c < 65536) : vp_nar .char (((nI c).toUInt32 % 65536).toInt32) = nI c := by
  rw [pk_vc, pk_char, pk_tn (by omega), Nat.mod_eq_of_lt h]
/-- the text: m characters t 0, t 1 .. -/
def rT (σ1 σ2 : gs_S) (m : Nat) (t : Nat → Nat) : Prop := m ≤ 64 ∧ σ1.1 1 2 = nI m ∧ σ2.1 0 0 = nI m ∧ ∀ j, j < m → 32 ≤ t j ∧ t j ≤ 126 ∧ σ1.1 2 j = nI (t j) ∧ σ2.1 1 j = nI (t j)
/-- the ring: c cells -/
def rR (σ1 σ2 : gs_S) (c : Nat) : Prop := 1 ≤ c ∧ c ≤ 64 ∧ σ1.1 10 1 = nI c ∧ σ2.1 0 7 = nI c ∧ ∀ j, j < 64 → σ1.1 11 j = σ2.1 3 j
section K1
variable {l : Launch} {v v1 v2 : gs_V} {n : Nat} {σ σ1 σ2 : gs_S} {Post : gs_S → gs_S → Prop} {x y : Int32}
theorem o_load {m : Nat} {t : Nat → Nat} (h : rT σ1 σ2 m t) (hP0 : Post σ1 σ2) (hP1 : ∀ c, m < 64 → 32 ≤ c → c ≤ 126 → Post (gs_pI (gs_pI σ1 2 m (nI c)) 1 2 (nI (m + 1))) (gs_pI (gs_pI σ2 1 m (nI c)) 0 0 (nI (m + 1)))) : lOi l v1 v2 (n + 2) me_A_load me_M_load [.int x] σ1 σ2 Post := by
  obtain ⟨hm, e1, e2, -⟩ := h
  refine E_A_load (T_A_load_0 (E_T_append (T_T_append_0 ⟨fun hx => T_T_append_12 ?_, fun hx => ⟨fun hy => ⟨fun h64 => ?_, fun h64 => ?_⟩, fun hy => T_T_append_12 ?_⟩⟩)))
  · exact E_M_load (T_M_load_0 ⟨fun _ => T_M_load_12 ⟨rfl, hP0⟩, fun h => absurd hx h⟩)
  · obtain ⟨c, hc1, hc2, rfl⟩ := nI_rng (a := 32) (b := 126) rfl rfl hx hy
    rw [e1] at h64 ⊢
    have hm64 : m < 64 := (nI_ltI (a := m) (b := 64) (by omega) (by decide)).mp h64
    refine ⟨vp_in_nI hm64 (by decide), ?_⟩
    rw [nI_clamp (by omega), nar_c (by omega), nI_1]
    refine E_M_load (T_M_load_0 ⟨fun h => absurd h hx, fun _ => ⟨fun _ => ⟨fun _ => ?_, fun h => ?_⟩, fun h => absurd hy h⟩⟩)
    · rw [e2]
      refine ⟨vp_in_nI hm64 (by decide), ?_⟩
      rw [nI_clamp (by omega), nI_1]
      exact ⟨rfl, hP1 c hm64 hc1 hc2⟩
    · rw [e2] at h
      have := (nI_eq (a := m) (b := 64) (by omega) (by decide)).mp h
      omega
  · rw [e1] at h64
    have hm64 : m = 64 := by
      rcases Nat.lt_or_ge m 64 with q | q
      · exact absurd ((nI_ltI (a := m) (b := 64) (by omega) (by decide)).mpr q) h64
      · omega
    refine E_M_load (T_M_load_0 ⟨fun h => absurd h hx, fun _ => ⟨fun _ => ⟨fun h => ?_, fun _ => ⟨rfl, hP0⟩⟩, fun h => absurd hy h⟩⟩)
    exact absurd (by rw [e2, hm64]; rfl) h
  · exact E_M_load (T_M_load_0 ⟨fun _ => T_M_load_12 ⟨rfl, hP0⟩, fun _ => ⟨fun h => absurd h hy, fun _ => T_M_load_12 ⟨rfl, hP0⟩⟩⟩)
theorem k_M_ring_loop {post : Int32 → gs_S → Prop} {z : Int32} (hp : post z (gs_pI (gs_pA σ 3 (fl32 (σ.1 3) 64 0)) 0 47 0)) : ∀ d i, i + d = 64 → G_M_ring_25 l v n post (gs_pA σ 3 (fl32 (σ.1 3) i 0)) z (nI i) := by
  intro d
  induction d with
  | zero =>
    intro i hi
    refine T_M_ring_25 ⟨fun _ => ?_, fun h => absurd (nI_le (a := 64) (b := i) (by omega) (by omega)) h⟩
    rw [show i = 64 by omega]
    exact hp
  | succ d ih =>
    intro i hi
    refine T_M_ring_25 ⟨fun h => absurd h (nI_ge (a := i) (b := 64) (by omega) (by decide)), fun _ => ⟨vp_in_nI (by omega) (by decide), ?_⟩⟩
    rw [nI_clamp (by omega), pI_pA, fl32_s, nI_1]
    exact ih (i + 1) (by omega)
/-- the worlds after ring(c) -/
def afC_ring (σ : gs_S) (c : Nat) : gs_S := gs_pI (gs_pI (gs_pA (gs_pI σ 10 1 (nI c)) 11 (fl32 (σ.1 11) 64 0)) 37 6 0) 37 8 0
def afM_ring (σ : gs_S) (c : Nat) : gs_S := gs_pI (gs_pA (gs_pI σ 0 7 (nI c)) 3 (fl32 (σ.1 3) 64 0)) 0 47 0
theorem o_ring {c : Nat} (h : rR σ1 σ2 c) (hP0 : Post σ1 σ2) (hP1 : ∀ c', 1 ≤ c' → c' ≤ 64 → Post (afC_ring σ1 c') (afM_ring σ2 c')) : lOi l v1 v2 (n + 4) me_A_ring me_M_ring [.int x] σ1 σ2 Post := by
  obtain ⟨hc1, hc2, e1, e2, -⟩ := h
  refine E_A_ring (T_A_ring_0 ⟨fun hx => T_A_ring_11 ?_, fun hx => ⟨fun hy => ?_, fun hy => T_A_ring_11 ?_⟩⟩)
  · exact E_M_ring (T_M_ring_0 ⟨fun _ => T_M_ring_11 ⟨rfl, hP0⟩, fun h => absurd hx h⟩)
  · obtain ⟨c', h1, h2, rfl⟩ := nI_rng (a := 1) (b := 64) rfl rfl hx hy
    refine k_C_resize (k_H_forget ?_)
    refine E_M_ring (T_M_ring_0 ⟨fun h => absurd h hx, fun _ => ⟨fun _ => ?_, fun h => absurd hy h⟩⟩)
    have hlp := k_M_ring_loop (l := l) (v := v2) (n := n + 3) (σ := gs_pI σ2 0 7 (nI c')) (z := σ2.1 0 7) (post := fun r' σ2' => σ1.1 10 1 = r' ∧ Post (afC_ring σ1 c') σ2') (by
      refine ⟨by rw [e1, e2], ?_⟩
      rw [pI_k (by decide)]
      exact hP1 c' h1 h2) 64 0 (by omega)
    rw [fl32_0, pA_id] at hlp
    exact hlp
  · exact E_M_ring (T_M_ring_0 ⟨fun _ => T_M_ring_11 ⟨rfl, hP0⟩, fun _ => ⟨fun h => absurd h hy, fun _ => T_M_ring_11 ⟨rfl, hP0⟩⟩⟩)
theorem o_get {c : Nat} (h : rR σ1 σ2 c) (hP0 : Post σ1 σ2) : lOi l v1 v2 (n + 2) me_A_get me_M_get [.int x] σ1 σ2 Post := by
  obtain ⟨hc1, hc2, e1, e2, e3⟩ := h
  refine E_A_get (T_A_get_0 (k_C_has (fun h => ⟨fun _ => T_A_get_24 ?_, fun h => absurd rfl h⟩) (fun h1 h2 => ⟨fun h => absurd h (by decide), fun _ => ?_⟩)))
  · rw [e1] at h
    rcases h with h | h
    · exact E_M_get (T_M_get_0 ⟨fun _ => T_M_get_21 (T_M_get_22 ⟨rfl, hP0⟩), fun h' => absurd h h'⟩)
    · exact E_M_get (T_M_get_0 ⟨fun _ => T_M_get_21 (T_M_get_22 ⟨rfl, hP0⟩), fun _ => ⟨fun _ => T_M_get_21 (T_M_get_22 ⟨rfl, hP0⟩), fun h' => absurd (by rw [e2]; exact h) h'⟩⟩)
  · rw [e1] at h2
    obtain ⟨j, hj, rfl⟩ : ∃ j : Nat, j < c ∧ x = nI j := by
      rcases pk_ix x (n := c) (by omega) with h | h | ⟨j, hj, rfl⟩
      · exact absurd h h1
      · exact absurd h h2
      · exact ⟨j, hj, rfl⟩
    refine ⟨vp_in_nI (by omega) (by decide), T_A_get_24 ?_⟩
    refine E_M_get (T_M_get_0 ⟨fun h => absurd h h1, fun _ => ⟨fun h => absurd (by rw [e2] at h; exact h) h2, fun _ => ⟨vp_in_nI (by omega) (by decide), T_M_get_22 ⟨?_, hP0⟩⟩⟩⟩)
    rw [nI_clamp (by omega)]
    exact e3 j (by omega)
/-- rule() of an empty text -/
theorem o_rule0 (e1 : σ1.1 1 2 = 0) (e2 : σ2.1 0 0 = 0) (hP : Post (gs_pI σ1 1 2 0) (gs_pI σ2 0 0 0)) : lOi l v1 v2 (n + 3) me_A_rule me_M_rule [] σ1 σ2 Post := by
  refine E_A_rule (T_A_rule_0 (E_T_readInto (T_T_readInto_0 (E_T_fault (T_T_fault_0 (T_T_fault_2 ⟨fun h => absurd h (by decide), fun _ => ⟨fun _ => T_T_fault_29 ⟨fun _ => T_T_readInto_15 ⟨fun h => absurd h (by decide), fun _ => ?_⟩, fun h => absurd h (by decide)⟩, fun h => absurd (by rw [e1]; decide) h⟩⟩))))))
  refine E_M_rule (T_M_rule_0 (E_M_readAll (T_M_readAll_0 ⟨fun _ => T_M_readAll_30 ⟨fun h => absurd h (by decide), fun _ => ⟨rfl, hP⟩⟩, fun h => absurd (by rw [e2]; decide) h⟩)))
end K1
