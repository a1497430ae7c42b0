/-! What stands between the two worlds from call to call, and every call keeps it. -/
section K39
variable {σ σ' : gs_S} {K W c : Nat} {tb g : Nat → Nat} {S : Nat → Nat → Prop}
theorem cB.kept (h : cB σ K W c tb g) (hX : sX S σ σ') (h6 : ¬ S 37 6) (h7 : ¬ S 37 7) (h39 : ∀ j, ¬ S 39 j) : cB σ' K W c tb g := by
  rcases h with h | ⟨h, ⟨a, b, d, e⟩ | ⟨a, b⟩⟩
  · exact Or.inl ((hX 37 6 h6).1.trans h)
  · exact Or.inr ⟨(hX 37 6 h6).1.trans h, Or.inl ⟨(hX 37 7 h7).1.trans a, b, d, fun r hr => (hX 39 r (h39 r)).1.trans (e r hr)⟩⟩
  · exact Or.inr ⟨(hX 37 6 h6).1.trans h, Or.inr ⟨(hX 37 7 h7).1.trans a, b⟩⟩
def c8 (σ : gs_S) (K W c : Nat) (tb g : Nat → Nat) : Prop := σ.1 37 8 = 0 ∨ (σ.1 37 8 = 1 ∧ σ.2.1 37 9 = tot K W c tb g)
theorem c8.kept (h : c8 σ K W c tb g) (hX : sX S σ σ') (h8 : ¬ S 37 8) (h9 : ¬ S 37 9) : c8 σ' K W c tb g := by
  rcases h with h | ⟨h, a⟩
  · exact Or.inl ((hX 37 8 h8).1.trans h)
  · exact Or.inr ⟨(hX 37 8 h8).1.trans h, (hX 37 9 h9).2.1.trans a⟩
theorem cSj.kept (h : cSj σ K W tb) (hX : sX S σ σ') (h3 : ¬ S 14 3) (h4 : ¬ S 14 4) : cSj σ' K W tb := by
  rcases h with h | ⟨h, ⟨a, b⟩ | ⟨a, b⟩⟩
  · exact Or.inl ((hX 14 3 h3).1.trans h)
  · exact Or.inr ⟨(hX 14 3 h3).1.trans h, Or.inl ⟨(hX 14 4 h4).1.trans a, b⟩⟩
  · exact Or.inr ⟨(hX 14 3 h3).1.trans h, Or.inr ⟨(hX 14 4 h4).1.trans a, b⟩⟩
theorem cIj.same (h : cIj σ K W tb) (h5 : σ'.1 14 5 = σ.1 14 5) (h6 : σ'.1 14 6 = σ.1 14 6) : cIj σ' K W tb := by
  unfold cIj
  rw [h5, h6]; exact h
theorem cIj.kept (h : cIj σ K W tb) (hX : sX S σ σ') (h5 : ¬ S 14 5) (h6 : ¬ S 14 6) : cIj σ' K W tb := h.same (hX 14 5 h5).1 (hX 14 6 h6).1
theorem mSj.kept (h : mSj σ K W tb) (hX : sX S σ σ') (h5 : ¬ S 0 28) : mSj σ' K W tb := by
  unfold mSj
  rw [(hX 0 28 h5).1]; exact h
theorem mIj.kept (h : mIj σ K W tb) (hX : sX S σ σ') (h5 : ¬ S 0 29) : mIj σ' K W tb := by
  unfold mIj
  rw [(hX 0 29 h5).1]; exact h
theorem cOr.kept (h : cOr σ K W tb) (hX : sX S σ σ') (h8 : ¬ S 31 8) (h9 : ¬ S 31 9) (h36 : ∀ j, ¬ S 36 j) : cOr σ' K W tb := by
  unfold cOr
  rw [(hX 31 8 h8).1, (hX 31 9 h9).1, show σ'.1 36 = σ.1 36 from funext fun j => (hX 36 j (h36 j)).1]
  exact h
theorem mOr.kept (h : mOr σ K W tb) (hX : sX S σ σ') (h8 : ¬ S 0 41) (h9 : ¬ S 0 42) (h25 : ∀ j, ¬ S 25 j) : mOr σ' K W tb := by
  unfold mOr
  rw [(hX 0 41 h8).1, (hX 0 42 h9).1, show σ'.1 25 = σ.1 25 from funext fun j => (hX 25 j (h25 j)).1]
  exact h
theorem cIv.kept (h : cIv σ K W tb) (hX : sX S σ σ') (h3 : ¬ S 17 3) (h4 : ¬ S 17 4) (h5 : ¬ S 17 5) (h18 : ∀ j, ¬ S 18 j) : cIv σ' K W tb := by
  unfold cIv iC
  rw [(hX 17 3 h3).1, (hX 17 4 h4).1, (hX 17 5 h5).1, show σ'.1 18 = σ.1 18 from funext fun j => (hX 18 j (h18 j)).1]
  exact h
theorem mIv.kept (h : mIv σ K W tb) (hX : sX S σ σ') (h3 : ¬ S 0 31) (h4 : ¬ S 0 32) (h5 : ¬ S 0 33) (h20 : ∀ j, ¬ S 20 j) : mIv σ' K W tb := by
  unfold mIv iM
  rw [(hX 0 31 h3).1, (hX 0 32 h4).1, (hX 0 33 h5).1, show σ'.1 20 = σ.1 20 from funext fun j => (hX 20 j (h20 j)).1]
  exact h
theorem mR.kept2 (h : mR σ K W tb) (hX : sX S σ σ') (h0 : ∀ j, 2 ≤ j → j < 6 → ¬ S 0 j) (h2 : ∀ j, ¬ S 2 j) : mR σ' K W tb := by
  obtain ⟨a, b, d, e, f⟩ := h
  exact ⟨(hX 0 2 (h0 2 (by decide) (by decide))).1.trans a, (hX 0 3 (h0 3 (by decide) (by decide))).1.trans b, (hX 0 4 (h0 4 (by decide) (by decide))).1.trans d, (hX 0 5 (h0 5 (by decide) (by decide))).1.trans e, fun j hj => (hX 2 j (h2 j)).1.trans (f j hj)⟩
theorem mB.kept (h : mB σ K W c tb g) (hX : sX S σ σ') (h7 : ¬ S 0 47) (h8 : ¬ S 0 48) (h9 : ¬ S 0 49) (h29 : ∀ j, ¬ S 29 j) : mB σ' K W c tb g := by
  unfold mB mF
  rw [(hX 0 47 h7).1, (hX 0 48 h8).1, (hX 0 49 h9).2.1, show σ'.1 29 = σ.1 29 from funext fun j => (hX 29 j (h29 j)).1]
  exact h
end K39
/-- a rule in the class, in the reference -/
def rlC (σ : gs_S) (K W c : Nat) (tb g : Nat → Nat) : Prop := σ.1 4 5 = 1 ∧ cR σ K W tb ∧ cF σ K W tb ∧ cS σ K W tb ∧ cB σ K W c tb g ∧ c8 σ K W c tb g ∧ cSj σ K W tb ∧ cIj σ K W tb ∧ cOr σ K W tb ∧ cIv σ K W tb ∧ cWt σ K W tb
def rlM (σ : gs_S) (K W c : Nat) (tb g : Nat → Nat) : Prop := mR σ K W tb ∧ (∀ j, j < c → σ.1 3 j = nI (g j)) ∧ mB σ K W c tb g ∧ mSj σ K W tb ∧ mIj σ K W tb ∧ mOr σ K W tb ∧ mIv σ K W tb ∧ mWt σ K W tb
def Rl (_ : Nat) (σ1 σ2 : gs_S) : Prop := ∃ sz tx c, rT σ1 σ2 sz tx ∧ rR σ1 σ2 c ∧ rfs σ1 ∧ ((σ1.1 4 5 = 0 ∧ σ2.1 0 2 = 0) ∨ ∃ K W tb g, okR K W tb ∧ (∀ j, j < c → g j < K) ∧ rlC σ1 K W c tb g ∧ rlM σ2 K W c tb g)
section K40
variable {σ1 σ2 σ1' σ2' : gs_S} {S1 S2 : Nat → Nat → Prop} {sz c : Nat} {tx : Nat → Nat}
theorem rT.kept (h : rT σ1 σ2 sz tx) (hX1 : sX S1 σ1 σ1') (hX2 : sX S2 σ2 σ2') (a : ¬ S1 1 2) (b : ∀ j, ¬ S1 2 j) (d : ¬ S2 0 0) (e : ∀ j, ¬ S2 1 j) : rT σ1' σ2' sz tx := by
  obtain ⟨h1, h2, h3, h4⟩ := h
  exact ⟨h1, (hX1 1 2 a).1.trans h2, (hX2 0 0 d).1.trans h3, fun j hj => ⟨(h4 j hj).1, (h4 j hj).2.1, (hX1 2 j (b j)).1.trans (h4 j hj).2.2.1, (hX2 1 j (e j)).1.trans (h4 j hj).2.2.2⟩⟩
theorem rR.kept (h : rR σ1 σ2 c) (hX1 : sX S1 σ1 σ1') (hX2 : sX S2 σ2 σ2') (a : ¬ S1 10 1) (b : ∀ j, ¬ S1 11 j) (d : ¬ S2 0 7) (e : ∀ j, ¬ S2 3 j) : rR σ1' σ2' c := by
  obtain ⟨h1, h2, h3, h4, h5⟩ := h
  exact ⟨h1, h2, (hX1 10 1 a).1.trans h3, (hX2 0 7 d).1.trans h4, fun j hj => ((hX1 11 j (b j)).1.trans (h5 j hj)).trans (hX2 3 j (e j)).1.symm⟩
theorem rfs.kept (h : rfs σ1) (hX1 : sX S1 σ1 σ1') (a : ¬ S1 37 4) (b : ¬ S1 37 5) : rfs σ1' := by
  unfold rfs
  rw [(hX1 37 4 a).2.2, (hX1 37 5 b).2.2]; exact h
theorem Rl_first : Rl 0 sgC sgM := ⟨0, fun _ => 0, 1, ⟨by decide, rfl, rfl, fun j hj => absurd hj (Nat.not_lt_zero j)⟩, ⟨by decide, by decide, rfl, rfl, fun j _ => rfl⟩, Or.inl ⟨rfl, rfl⟩, Or.inl ⟨rfl, rfl⟩⟩
end K40
section K41
variable {l : Launch} {v1 v2 : gs_V} {σ1 σ2 : gs_S} {i : Nat} {x y : Int32}
theorem s_load (h : Rl i σ1 σ2) : lOi l v1 v2 1000 me_A_load me_M_load [.int x] σ1 σ2 (Rl (i + 1)) := by
  obtain ⟨sz, tx, c, hT, hr, hf, hru⟩ := h
  refine o_load (n := 998) hT ⟨sz, tx, c, hT, hr, hf, hru⟩ (fun a h64 h32 h126 => ?_)
  have hX1 : sX (fun k j => k = 2 ∨ (k = 1 ∧ j = 2)) σ1 (gs_pI (gs_pI σ1 2 sz (nI a)) 1 2 (nI (sz + 1))) := (sX.rf.I (by omega)).I (by omega)
  have hX2 : sX (fun k j => k = 1 ∨ (k = 0 ∧ j = 0)) σ2 (gs_pI (gs_pI σ2 1 sz (nI a)) 0 0 (nI (sz + 1))) := (sX.rf.I (by omega)).I (by omega)
  refine ⟨sz + 1, fun j => if j = sz then a else tx j, c, ⟨by omega, pI_eq, pI_eq, fun j hj => ?_⟩, hr.kept hX1 hX2 (by omega) (fun _ => by omega) (by omega) (fun _ => by omega), hf.kept hX1 (by omega) (by omega), ?_⟩
  · show 32 ≤ (if j = sz then a else tx j) ∧ (if j = sz then a else tx j) ≤ 126 ∧ _ = nI (if j = sz then a else tx j) ∧ _ = nI (if j = sz then a else tx j)
    by_cases e : j = sz
    · subst e
      rw [if_pos rfl, pI_k (by decide), pI_eq, pI_k (by decide), pI_eq]
      exact ⟨h32, h126, rfl, rfl⟩
    · rw [if_neg e, pI_k (by decide), pI_j e, pI_k (by decide), pI_j e]
      exact hT.2.2.2 j (by omega)
  · rcases hru with ⟨a1, a2⟩ | ⟨K, W, tb, g, hO, hg, ⟨b1, b2, b3, b4, b5, b6, b7, b8, b9, b10, b11⟩, ⟨d1, d2, d3, d4, d5, d6, d7, d8⟩⟩
    · exact Or.inl ⟨(hX1 4 5 (by omega)).1.trans a1, (hX2 0 2 (by omega)).1.trans a2⟩
    · exact Or.inr ⟨K, W, tb, g, hO, hg, ⟨(hX1 4 5 (by omega)).1.trans b1, b2.kept hX1 (fun _ => by omega) (fun _ => by omega), b3.kept hX1 (fun _ => by omega), b4.kept hX1 (fun _ => by omega) (fun _ => by omega) (fun _ => by omega), b5.kept hX1 (by omega) (by omega) (fun _ => by omega), b6.kept hX1 (by omega) (by omega), b7.kept hX1 (by omega) (by omega), b8.kept hX1 (by omega) (by omega), b9.kept hX1 (by omega) (by omega) (fun _ => by omega), b10.kept hX1 (by omega) (by omega) (by omega) (fun _ => by omega), b11.kept hO.2.1 hX1 (by omega) (by omega) (fun _ _ _ _ => by omega)⟩, ⟨d1.kept2 hX2 (fun _ _ _ => by omega) (fun _ => by omega), fun j hj => (hX2 3 j (by omega)).1.trans (d2 j hj), d3.kept hX2 (by omega) (by omega) (by omega) (fun _ => by omega), d4.kept hX2 (by omega), d5.kept hX2 (by omega), d6.kept hX2 (by omega) (by omega) (fun _ => by omega), d7.kept hX2 (by omega) (by omega) (by omega) (fun _ => by omega), d8.kept hX2 (by omega) (by omega) (fun _ => by omega)⟩⟩
theorem s_rule (h : Rl i σ1 σ2) : lOi l v1 v2 1000 me_A_rule me_M_rule [] σ1 σ2 (Rl (i + 1)) := by
  obtain ⟨sz, tx, c, hT, hr, hf, hru⟩ := h
  refine o_rule (n := 944) hT (fun σ1' σ2' hX1 e1 hX2 e2 => ?_) (fun K W tb σ1' σ2' hO hX1 e1 hC h5 hF hS z11 z3 z5 z17 z19 z31 z6 z8 hX2 e2 hM y3 y28 y29 y31 y35 y41 y47 => ?_)
  · refine ⟨0, fun _ => 0, c, ⟨by decide, e1, e2, fun j hj => absurd hj (Nat.not_lt_zero j)⟩, hr.kept hX1 hX2 (by omega) (fun _ => by omega) (by omega) (fun _ => by omega), hf.kept hX1 (by omega) (by omega), ?_⟩
    rcases hru with ⟨a1, a2⟩ | ⟨K, W, tb, g, hO, hg, ⟨b1, b2, b3, b4, b5, b6, b7, b8, b9, b10, b11⟩, ⟨d1, d2, d3, d4, d5, d6, d7, d8⟩⟩
    · exact Or.inl ⟨(hX1 4 5 (by omega)).1.trans a1, (hX2 0 2 (by omega)).1.trans a2⟩
    · exact Or.inr ⟨K, W, tb, g, hO, hg, ⟨(hX1 4 5 (by omega)).1.trans b1, b2.kept hX1 (fun _ => by omega) (fun _ => by omega), b3.kept hX1 (fun _ => by omega), b4.kept hX1 (fun _ => by omega) (fun _ => by omega) (fun _ => by omega), b5.kept hX1 (by omega) (by omega) (fun _ => by omega), b6.kept hX1 (by omega) (by omega), b7.kept hX1 (by omega) (by omega), b8.kept hX1 (by omega) (by omega), b9.kept hX1 (by omega) (by omega) (fun _ => by omega), b10.kept hX1 (by omega) (by omega) (by omega) (fun _ => by omega), b11.kept hO.2.1 hX1 (by omega) (by omega) (fun _ _ _ _ => by omega)⟩, ⟨d1.kept2 hX2 (fun _ _ _ => by omega) (fun _ => by omega), fun j hj => (hX2 3 j (by omega)).1.trans (d2 j hj), d3.kept hX2 (by omega) (by omega) (by omega) (fun _ => by omega), d4.kept hX2 (by omega), d5.kept hX2 (by omega), d6.kept hX2 (by omega) (by omega) (fun _ => by omega), d7.kept hX2 (by omega) (by omega) (by omega) (fun _ => by omega), d8.kept hX2 (by omega) (by omega) (fun _ => by omega)⟩⟩
  · obtain ⟨h1, h2, h3, h4, h5'⟩ := hr
    have hK2 := hO.1
    refine ⟨0, fun _ => 0, c, ⟨by decide, e1, e2, fun j hj => absurd hj (Nat.not_lt_zero j)⟩, ⟨h1, h2, (hX1 10 1 (by omega)).1.trans h3, (hX2 0 7 (by omega)).1.trans h4, fun j hj => by rw [z11 j hj, y3 j hj]⟩, hf.kept hX1 (by omega) (by omega), Or.inr ⟨K, W, tb, fun _ => 0, hO, fun _ _ => (show 0 < K by omega), ⟨h5, hC, hF, hS, Or.inl z6, Or.inl z8, Or.inl z3, Or.inl z5, Or.inl z31, Or.inl z17, Or.inl z19⟩, ⟨hM, fun j hj => y3 j (by omega), Or.inl y47, Or.inl y28, Or.inl y29, Or.inl y41, Or.inl y31, Or.inl y35⟩⟩⟩
theorem s_next (h : Rl i σ1 σ2) : lOi l v1 v2 1000 me_A_next me_M_next [.int x] σ1 σ2 (Rl (i + 1)) := by
  have h' : Rl (i + 1) σ1 σ2 := h
  obtain ⟨sz, tx, c, hT, hr, hf, ⟨a1, a2⟩ | ⟨K, W, tb, g, hO, hg, hC, hM⟩⟩ := h
  · exact a_next (n := 999) a1 a2 h'
  · exact o_next (n := 999) (by rw [hC.1]; decide) hO hC.2.1 hM.1 h'
theorem s_ring (h : Rl i σ1 σ2) : lOi l v1 v2 1000 me_A_ring me_M_ring [.int x] σ1 σ2 (Rl (i + 1)) := by
  have h' : Rl (i + 1) σ1 σ2 := h
  obtain ⟨sz, tx, c, hT, hr, hf, hru⟩ := h
  refine o_ring (n := 996) hr h' (fun c' h1 h2 => ?_)
  have hX1 : sX (fun k j => (k = 10 ∧ j = 1) ∨ k = 11 ∨ (k = 37 ∧ (j = 6 ∨ j = 8))) σ1 (afC_ring σ1 c') := (((sX.rf.I (by omega)).A (fun _ => by omega)).I (by omega)).I (by omega)
  have hX2 : sX (fun k j => (k = 0 ∧ (j = 7 ∨ j = 47)) ∨ k = 3) σ2 (afM_ring σ2 c') := ((sX.rf.I (by omega)).A (fun _ => by omega)).I (by omega)
  have e11 : ∀ j, j < 64 → (afC_ring σ1 c').1 11 j = 0 := fun j hj => by
    unfold afC_ring
    rw [pI_k (by decide), pI_k (by decide), pA_row]
    exact if_pos hj
  have e3 : ∀ j, j < 64 → (afM_ring σ2 c').1 3 j = 0 := fun j hj => by
    unfold afM_ring
    rw [pI_k (by decide), pA_row]
    exact if_pos hj
  refine ⟨sz, tx, c', hT.kept hX1 hX2 (by omega) (fun _ => by omega) (by omega) (fun _ => by omega), ⟨h1, h2, ?_, ?_, fun j hj => by rw [e11 j hj, e3 j hj]⟩, hf.kept hX1 (by omega) (by omega), ?_⟩
  · unfold afC_ring
    rw [pI_k (by decide), pI_k (by decide), pA_k (by decide), pI_eq]
  · unfold afM_ring
    rw [pI_j (by decide), pA_k (by decide), pI_eq]
  · rcases hru with ⟨a1, a2⟩ | ⟨K, W, tb, g, hO, hg, ⟨b1, b2, b3, b4, b5, b6, b7, b8, b9, b10, b11⟩, ⟨d1, d2, d3, d4, d5, d6, d7, d8⟩⟩
    · exact Or.inl ⟨(hX1 4 5 (by omega)).1.trans a1, (hX2 0 2 (by omega)).1.trans a2⟩
    · have hK2 := hO.1
      exact Or.inr ⟨K, W, tb, fun _ => 0, hO, fun _ _ => (show 0 < K by omega), ⟨(hX1 4 5 (by omega)).1.trans b1, b2.kept hX1 (fun _ => by omega) (fun _ => by omega), b3.kept hX1 (fun _ => by omega), b4.kept hX1 (fun _ => by omega) (fun _ => by omega) (fun _ => by omega), Or.inl (by unfold afC_ring; rw [pI_j (by decide), pI_eq]), Or.inl pI_eq, b7.kept hX1 (by omega) (by omega), b8.kept hX1 (by omega) (by omega), b9.kept hX1 (by omega) (by omega) (fun _ => by omega), b10.kept hX1 (by omega) (by omega) (by omega) (fun _ => by omega), b11.kept hO.2.1 hX1 (by omega) (by omega) (fun _ _ _ _ => by omega)⟩, ⟨d1.kept2 hX2 (fun _ _ _ => by omega) (fun _ => by omega), fun j hj => e3 j (by omega), Or.inl pI_eq, d4.kept hX2 (by omega), d5.kept hX2 (by omega), d6.kept hX2 (by omega) (by omega) (fun _ => by omega), d7.kept hX2 (by omega) (by omega) (by omega) (fun _ => by omega), d8.kept hX2 (by omega) (by omega) (fun _ => by omega)⟩⟩
theorem s_set (h : Rl i σ1 σ2) : lOi l v1 v2 1000 me_A_set me_M_set [.int x, .int y] σ1 σ2 (Rl (i + 1)) := by
  have h' : Rl (i + 1) σ1 σ2 := h
  obtain ⟨sz, tx, c, hT, hr, hf, ⟨a1, a2⟩ | ⟨K, W, tb, g, hO, hg, ⟨b1, b2, b3, b4, b5, b6, b7, b8, b9, b10, b11⟩, ⟨d1, d2, d3, d4, d5, d6, d7, d8⟩⟩⟩ := h
  · exact a_set (n := 999) a1 a2 h'
  · refine o_set (n := 998) (by rw [b1]; decide) hO b2 d1 hr h' (fun p s hp hs => ?_)
    have hX1 : sX (fun k j => k = 11 ∨ (k = 37 ∧ (j = 6 ∨ j = 8))) σ1 (afC_set σ1 p s) := ((sX.rf.I (by omega)).I (by omega)).I (by omega)
    have hX2 : sX (fun k j => (k = 0 ∧ j = 47) ∨ k = 3) σ2 (afM_set σ2 p s) := (sX.rf.I (by omega)).I (by omega)
    obtain ⟨h1, h2, h3, h4, h5⟩ := hr
    refine ⟨sz, tx, c, hT.kept hX1 hX2 (by omega) (fun _ => by omega) (by omega) (fun _ => by omega), ⟨h1, h2, (hX1 10 1 (by omega)).1.trans h3, (hX2 0 7 (by omega)).1.trans h4, fun j hj => ?_⟩, hf.kept hX1 (by omega) (by omega), Or.inr ⟨K, W, tb, fun j => if j = p then s else g j, hO, fun j hj => ?_, ⟨(hX1 4 5 (by omega)).1.trans b1, b2.kept hX1 (fun _ => by omega) (fun _ => by omega), b3.kept hX1 (fun _ => by omega), b4.kept hX1 (fun _ => by omega) (fun _ => by omega) (fun _ => by omega), Or.inl (by unfold afC_set; rw [pI_j (by decide), pI_eq]), Or.inl pI_eq, b7.kept hX1 (by omega) (by omega), b8.kept hX1 (by omega) (by omega), b9.kept hX1 (by omega) (by omega) (fun _ => by omega), b10.kept hX1 (by omega) (by omega) (by omega) (fun _ => by omega), b11.kept hO.2.1 hX1 (by omega) (by omega) (fun _ _ _ _ => by omega)⟩, ⟨d1.kept2 hX2 (fun _ _ _ => by omega) (fun _ => by omega), fun j hj => ?_, Or.inl pI_eq, d4.kept hX2 (by omega), d5.kept hX2 (by omega), d6.kept hX2 (by omega) (by omega) (fun _ => by omega), d7.kept hX2 (by omega) (by omega) (by omega) (fun _ => by omega), d8.kept hX2 (by omega) (by omega) (fun _ => by omega)⟩⟩⟩
    · unfold afC_set afM_set
      rw [pI_k (by decide), pI_k (by decide), pI_k (k' := 3) (by decide)]
      by_cases e : j = p
      · subst e; rw [pI_eq, pI_eq]
      · rw [pI_j e, pI_j e]; exact h5 j hj
    · show (if j = p then s else g j) < K
      have := hg j hj
      split <;> assumption
    · unfold afM_set
      rw [pI_k (by decide)]
      show _ = nI (if j = p then s else g j)
      by_cases e : j = p
      · subst e; rw [pI_eq, if_pos rfl]
      · rw [pI_j e, if_neg e]; exact d2 j hj
theorem s_get (h : Rl i σ1 σ2) : lOi l v1 v2 1000 me_A_get me_M_get [.int x] σ1 σ2 (Rl (i + 1)) := by
  have h' : Rl (i + 1) σ1 σ2 := h
  obtain ⟨sz, tx, c, hT, hr, hf, hru⟩ := h
  exact o_get (n := 998) hr h'
theorem s_step (h : Rl i σ1 σ2) : lOi l v1 v2 1000 me_A_step me_M_step [.int x] σ1 σ2 (Rl (i + 1)) := by
  have h' : Rl (i + 1) σ1 σ2 := h
  obtain ⟨sz, tx, c, hT, hr, hf, ⟨a1, a2⟩ | ⟨K, W, tb, g, hO, hg, ⟨b1, b2, b3, b4, b5, b6, b7, b8, b9, b10, b11⟩, ⟨d1, d2, d3, d4, d5, d6, d7, d8⟩⟩⟩ := h
  · exact a_step (n := 999) a1 a2 h'
  · refine o_step (n := 996) (by rw [b1]; decide) hO b2 d1 hr d2 hg h' (fun m σ1' σ2' hX1 hX2 e1 e2 e3 e6 e8 e47 => ?_)
    obtain ⟨h1, h2, h3, h4, h5⟩ := hr
    exact ⟨sz, tx, c, hT.kept hX1 hX2 (by omega) (fun _ => by omega) (by omega) (fun _ => by omega), ⟨h1, h2, (hX1 10 1 (by omega)).1.trans h3, (hX2 0 7 (by omega)).1.trans h4, e1⟩, hf.kept hX1 (by omega) (by omega), Or.inr ⟨K, W, tb, itr K W c tb m g, hO, itr_lt hO h1 hg m, ⟨(hX1 4 5 (by omega)).1.trans b1, b2.kept hX1 (fun _ => by omega) (fun _ => by omega), b3.kept hX1 (fun _ => by omega), b4.kept hX1 (fun _ => by omega) (fun _ => by omega) (fun _ => by omega), Or.inl e6, Or.inl e8, b7.kept hX1 (by omega) (by omega), b8.kept hX1 (by omega) (by omega), b9.kept hX1 (by omega) (by omega) (fun _ => by omega), b10.kept hX1 (by omega) (by omega) (by omega) (fun _ => by omega), b11.kept hO.2.1 hX1 (by omega) (by omega) (fun _ _ _ _ => by omega)⟩, ⟨d1.kept2 hX2 (fun _ _ _ => by omega) (fun _ => by omega), e2, Or.inl e47, d4.kept hX2 (by omega), d5.kept hX2 (by omega), d6.kept hX2 (by omega) (by omega) (fun _ => by omega), d7.kept hX2 (by omega) (by omega) (by omega) (fun _ => by omega), d8.kept hX2 (by omega) (by omega) (fun _ => by omega)⟩⟩⟩
theorem s_population (h : Rl i σ1 σ2) : lOi l v1 v2 1000 me_A_population me_M_population [.int x] σ1 σ2 (Rl (i + 1)) := by
  have h' : Rl (i + 1) σ1 σ2 := h
  obtain ⟨sz, tx, c, hT, hr, hf, ⟨a1, a2⟩ | ⟨K, W, tb, g, hO, hg, hC, hM⟩⟩ := h
  · exact a_population (n := 999) a1 a2 h'
  · exact o_population (n := 998) (by rw [hC.1]; decide) hO hC.2.1 hM.1 hr hM.2.1 hg h'
theorem s_surjective (h : Rl i σ1 σ2) : lOi l v1 v2 1000 me_A_surjective me_M_surjective [] σ1 σ2 (Rl (i + 1)) := by
  have h' : Rl (i + 1) σ1 σ2 := h
  obtain ⟨sz, tx, c, hT, hr, hf, ⟨a1, a2⟩ | ⟨K, W, tb, g, hO, hg, ⟨b1, b2, b3, b4, b5, b6, b7, b8, b9, b10, b11⟩, ⟨d1, d2, d3, d4, d5, d6, d7, d8⟩⟩⟩ := h
  · exact a_surjective (n := 999) a1 a2 h'
  · refine o_surjective (n := 995) (by rw [b1]; decide) hO b2 b3 d1 b7 d4 (fun σ1' σ2' hX1 e1 e2 e3 hX2 e4 => ?_)
    unfold fPr at hX1
    exact ⟨sz, tx, c, hT.kept hX1 hX2 (by omega) (fun _ => by omega) (by omega) (fun _ => by omega), hr.kept hX1 hX2 (by omega) (fun _ => by omega) (by omega) (fun _ => by omega), hf.kept hX1 (by omega) (by omega), Or.inr ⟨K, W, tb, g, hO, hg, ⟨(hX1 4 5 (by omega)).1.trans b1, b2.kept hX1 (fun _ => by omega) (fun _ => by omega), b3.kept hX1 (fun _ => by omega), b4.kept hX1 (fun _ => by omega) (fun _ => by omega) (fun _ => by omega), b5.kept hX1 (by omega) (by omega) (fun _ => by omega), b6.kept hX1 (by omega) (by omega), e1, b8.same e2 e3, b9.kept hX1 (by omega) (by omega) (fun _ => by omega), b10.kept hX1 (by omega) (by omega) (by omega) (fun _ => by omega), b11.kept hO.2.1 hX1 (by omega) (by omega) (fun _ _ _ _ => by omega)⟩, ⟨d1.kept2 hX2 (fun _ _ _ => by omega) (fun _ => by omega), fun j hj => (hX2 3 j (by omega)).1.trans (d2 j hj), d3.kept hX2 (by omega) (by omega) (by omega) (fun _ => by omega), e4, d5.kept hX2 (by omega), d6.kept hX2 (by omega) (by omega) (fun _ => by omega), d7.kept hX2 (by omega) (by omega) (by omega) (fun _ => by omega), d8.kept hX2 (by omega) (by omega) (fun _ => by omega)⟩⟩⟩
theorem s_injective (h : Rl i σ1 σ2) : lOi l v1 v2 1000 me_A_injective me_M_injective [] σ1 σ2 (Rl (i + 1)) := by
  have h' : Rl (i + 1) σ1 σ2 := h
  obtain ⟨sz, tx, c, hT, hr, hf, ⟨a1, a2⟩ | ⟨K, W, tb, g, hO, hg, ⟨b1, b2, b3, b4, b5, b6, b7, b8, b9, b10, b11⟩, ⟨d1, d2, d3, d4, d5, d6, d7, d8⟩⟩⟩ := h
  · exact a_injective (n := 999) a1 a2 h'
  · refine o_injective (n := 994) (by rw [b1]; decide) hO b2 b3 d1 b7 b8 d5 (fun σ1' σ2' hX1 e1 e2 hX2 e4 => ?_)
    unfold fPr at hX1
    exact ⟨sz, tx, c, hT.kept hX1 hX2 (by omega) (fun _ => by omega) (by omega) (fun _ => by omega), hr.kept hX1 hX2 (by omega) (fun _ => by omega) (by omega) (fun _ => by omega), hf.kept hX1 (by omega) (by omega), Or.inr ⟨K, W, tb, g, hO, hg, ⟨(hX1 4 5 (by omega)).1.trans b1, b2.kept hX1 (fun _ => by omega) (fun _ => by omega), b3.kept hX1 (fun _ => by omega), b4.kept hX1 (fun _ => by omega) (fun _ => by omega) (fun _ => by omega), b5.kept hX1 (by omega) (by omega) (fun _ => by omega), b6.kept hX1 (by omega) (by omega), e1, e2, b9.kept hX1 (by omega) (by omega) (fun _ => by omega), b10.kept hX1 (by omega) (by omega) (by omega) (fun _ => by omega), b11.kept hO.2.1 hX1 (by omega) (by omega) (fun _ _ _ _ => by omega)⟩, ⟨d1.kept2 hX2 (fun _ _ _ => by omega) (fun _ => by omega), fun j hj => (hX2 3 j (by omega)).1.trans (d2 j hj), d3.kept hX2 (by omega) (by omega) (by omega) (fun _ => by omega), d4.kept hX2 (by omega), e4, d6.kept hX2 (by omega) (by omega) (fun _ => by omega), d7.kept hX2 (by omega) (by omega) (by omega) (fun _ => by omega), d8.kept hX2 (by omega) (by omega) (fun _ => by omega)⟩⟩⟩
theorem s_inv (h : Rl i σ1 σ2) : lOi l v1 v2 1000 me_A_inverse me_M_inverse [.int x] σ1 σ2 (Rl (i + 1)) ∧ lOi l v1 v2 1000 me_A_undo me_M_undo [.int x] σ1 σ2 (Rl (i + 1)) := by
  have h' : Rl (i + 1) σ1 σ2 := h
  obtain ⟨sz, tx, c, hT, hr, hf, ⟨a1, a2⟩ | ⟨K, W, tb, g, hO, hg, ⟨b1, b2, b3, b4, b5, b6, b7, b8, b9, b10, b11⟩, ⟨d1, d2, d3, d4, d5, d6, d7, d8⟩⟩⟩ := h
  · exact ⟨a_inverse (n := 999) a1 a2 h', a_undo (n := 999) a1 a2 h'⟩
  · have nxt : ∀ σ1' σ2', fIv σ1 σ1' → cSj σ1' K W tb → cIj σ1' K W tb → cIv σ1' K W tb → fMi σ2 σ2' → mIv σ2' K W tb → Rl (i + 1) σ1' σ2' := fun σ1' σ2' hX1 e1 e2 e3 hX2 e4 => by
      unfold fIv at hX1
      unfold fMi at hX2
      exact ⟨sz, tx, c, hT.kept hX1 hX2 (by omega) (fun _ => by omega) (by omega) (fun _ => by omega), hr.kept hX1 hX2 (by omega) (fun _ => by omega) (by omega) (fun _ => by omega), hf.kept hX1 (by omega) (by omega), Or.inr ⟨K, W, tb, g, hO, hg, ⟨(hX1 4 5 (by omega)).1.trans b1, b2.kept hX1 (fun _ => by omega) (fun _ => by omega), b3.kept hX1 (fun _ => by omega), b4.kept hX1 (fun _ => by omega) (fun _ => by omega) (fun _ => by omega), b5.kept hX1 (by omega) (by omega) (fun _ => by omega), b6.kept hX1 (by omega) (by omega), e1, e2, b9.kept hX1 (by omega) (by omega) (fun _ => by omega), e3, b11.kept hO.2.1 hX1 (by omega) (by omega) (fun _ _ _ _ => by omega)⟩, ⟨d1.kept2 hX2 (fun _ _ _ => by omega) (fun _ => by omega), fun j hj => (hX2 3 j (by omega)).1.trans (d2 j hj), d3.kept hX2 (by omega) (by omega) (by omega) (fun _ => by omega), d4.kept hX2 (by omega), d5.kept hX2 (by omega), d6.kept hX2 (by omega) (by omega) (fun _ => by omega), e4, d8.kept hX2 (by omega) (by omega) (fun _ => by omega)⟩⟩⟩
    exact ⟨o_inverse (n := 992) (by rw [b1]; decide) hO b2 b3 d1 b7 b8 b10 d7 h' nxt, o_undo (n := 992) (by rw [b1]; decide) hO b2 b3 d1 b7 b8 b10 d7 nxt⟩
theorem s_wts (h : Rl i σ1 σ2) : lOi l v1 v2 1000 me_A_conserved me_M_conserved [] σ1 σ2 (Rl (i + 1)) ∧ lOi l v1 v2 1000 me_A_weight me_M_weight [.int x, .int y] σ1 σ2 (Rl (i + 1)) := by
  have h' : Rl (i + 1) σ1 σ2 := h
  obtain ⟨sz, tx, c, hT, hr, hf, ⟨a1, a2⟩ | ⟨K, W, tb, g, hO, hg, ⟨b1, b2, b3, b4, b5, b6, b7, b8, b9, b10, b11⟩, ⟨d1, d2, d3, d4, d5, d6, d7, d8⟩⟩⟩ := h
  · exact ⟨a_conserved (n := 999) a1 a2 h', a_weight (n := 999) a1 a2 h'⟩
  · have nxt : ∀ σ1' σ2', fWt σ1 σ1' → cWt σ1' K W tb → fMw σ2 σ2' → mWt σ2' K W tb → Rl (i + 1) σ1' σ2' := fun σ1' σ2' hX1 e1 hX2 e4 => by
      exact ⟨sz, tx, c, hT.kept hX1 hX2 (by omega) (fun _ => by omega) (by omega) (fun _ => by omega), hr.kept hX1 hX2 (by omega) (fun _ => by omega) (by omega) (fun _ => by omega), hf.kept hX1 (by omega) (by omega), Or.inr ⟨K, W, tb, g, hO, hg, ⟨(hX1 4 5 (by omega)).1.trans b1, b2.kept hX1 (fun _ => by omega) (fun _ => by omega), b3.kept hX1 (fun _ => by omega), b4.kept hX1 (fun _ => by omega) (fun _ => by omega) (fun _ => by omega), b5.kept hX1 (by omega) (by omega) (fun _ => by omega), b6.kept hX1 (by omega) (by omega), b7.kept hX1 (by omega) (by omega), b8.kept hX1 (by omega) (by omega), b9.kept hX1 (by omega) (by omega) (fun _ => by omega), b10.kept hX1 (by omega) (by omega) (by omega) (fun _ => by omega), e1⟩, ⟨d1.kept2 hX2 (fun _ _ _ => by omega) (fun _ => by omega), fun j hj => (hX2 3 j (by omega)).1.trans (d2 j hj), d3.kept hX2 (by omega) (by omega) (by omega) (fun _ => by omega), d4.kept hX2 (by omega), d5.kept hX2 (by omega), d6.kept hX2 (by omega) (by omega) (fun _ => by omega), d7.kept hX2 (by omega) (by omega) (by omega) (fun _ => by omega), e4⟩⟩⟩
    exact ⟨o_conserved (n := 994) (by rw [b1]; decide) hO b2 d1 b11 d8 nxt, o_weight (n := 994) (by rw [b1]; decide) hO b2 d1 b11 d8 nxt⟩
theorem s_orph (h : Rl i σ1 σ2) : lOi l v1 v2 1000 me_A_orphan me_M_orphan [] σ1 σ2 (Rl (i + 1)) ∧ lOi l v1 v2 1000 me_A_orphanAt me_M_orphanAt [.int x] σ1 σ2 (Rl (i + 1)) := by
  have h' : Rl (i + 1) σ1 σ2 := h
  obtain ⟨sz, tx, c, hT, hr, hf, ⟨a1, a2⟩ | ⟨K, W, tb, g, hO, hg, ⟨b1, b2, b3, b4, b5, b6, b7, b8, b9, b10, b11⟩, ⟨d1, d2, d3, d4, d5, d6, d7, d8⟩⟩⟩ := h
  · exact ⟨a_orphan (n := 999) a1 a2 h', a_orphanAt (n := 999) a1 a2 h'⟩
  · have nxt : ∀ σ1' σ2', fO σ1 σ1' → cSj σ1' K W tb → σ1'.1 14 5 = σ1.1 14 5 → σ1'.1 14 6 = σ1.1 14 6 → cOr σ1' K W tb → fMo σ2 σ2' → mSj σ2' K W tb → mOr σ2' K W tb → Rl (i + 1) σ1' σ2' := fun σ1' σ2' hX1 e1 e2 e3 e4 hX2 e5 e6 => by
      unfold fO at hX1
      unfold fMo at hX2
      exact ⟨sz, tx, c, hT.kept hX1 hX2 (by omega) (fun _ => by omega) (by omega) (fun _ => by omega), hr.kept hX1 hX2 (by omega) (fun _ => by omega) (by omega) (fun _ => by omega), hf.kept hX1 (by omega) (by omega), Or.inr ⟨K, W, tb, g, hO, hg, ⟨(hX1 4 5 (by omega)).1.trans b1, b2.kept hX1 (fun _ => by omega) (fun _ => by omega), b3.kept hX1 (fun _ => by omega), b4.kept hX1 (fun _ => by omega) (fun _ => by omega) (fun _ => by omega), b5.kept hX1 (by omega) (by omega) (fun _ => by omega), b6.kept hX1 (by omega) (by omega), e1, b8.same e2 e3, e4, b10.kept hX1 (by omega) (by omega) (by omega) (fun _ => by omega), b11.kept hO.2.1 hX1 (by omega) (by omega) (fun _ _ _ _ => by omega)⟩, ⟨d1.kept2 hX2 (fun _ _ _ => by omega) (fun _ => by omega), fun j hj => (hX2 3 j (by omega)).1.trans (d2 j hj), d3.kept hX2 (by omega) (by omega) (by omega) (fun _ => by omega), e5, d5.kept hX2 (by omega), e6, d7.kept hX2 (by omega) (by omega) (by omega) (fun _ => by omega), d8.kept hX2 (by omega) (by omega) (fun _ => by omega)⟩⟩⟩
    exact ⟨o_orphan (n := 993) (by rw [b1]; decide) hO b2 b3 d1 b7 b9 d4 d6 nxt, o_orphanAt (n := 993) (by rw [b1]; decide) hO b2 b3 d1 b7 b9 d4 d6 nxt⟩
theorem s_past (h : Rl i σ1 σ2) : lOi l v1 v2 1000 me_A_before me_M_before [] σ1 σ2 (Rl (i + 1)) ∧ lOi l v1 v2 1000 me_A_beforeAt me_M_beforeAt [.int x] σ1 σ2 (Rl (i + 1)) ∧ lOl l v1 v2 1000 me_A_ways me_M_ways [] σ1 σ2 (Rl (i + 1)) := by
  have h' : Rl (i + 1) σ1 σ2 := h
  obtain ⟨sz, tx, c, hT, hr, hf, ⟨a1, a2⟩ | ⟨K, W, tb, g, hO, hg, ⟨b1, b2, b3, b4, b5, b6, b7, b8, b9, b10, b11⟩, ⟨d1, d2, d3, d4, d5, d6, d7, d8⟩⟩⟩ := h
  · exact ⟨a_before (n := 999) a1 a2 h', a_beforeAt (n := 999) a1 a2 h', a_ways (n := 999) a1 a2 h'⟩
  · have hr' := hr
    obtain ⟨h1, h2, h3, h4, h5⟩ := hr'
    have hw : cW σ1 K W c tb g := ⟨hO, b2, b3, b4, h1, h2, h3, fun j hj => (h5 j (by omega)).trans (d2 j hj), hg⟩
    have hm : mW σ2 K W c tb g := ⟨hO, d1, h1, h2, h4, d2, hg⟩
    have nxt : ∀ σ1' σ2', pC σ1 σ1' → σ1'.1 37 6 = 1 → fB σ1' K W c tb g → pM σ2 σ2' → σ2'.1 0 47 = 1 → mF σ2' K W c tb g → Rl (i + 1) σ1' σ2' := fun σ1' σ2' hX1 e1 e2 hX2 e4 e5 => by
      unfold pC at hX1
      unfold pM at hX2
      exact ⟨sz, tx, c, hT.kept hX1 hX2 (by omega) (fun _ => by omega) (by omega) (fun _ => by omega), hr.kept hX1 hX2 (by omega) (fun _ => by omega) (by omega) (fun _ => by omega), hf.kept hX1 (by omega) (by omega), Or.inr ⟨K, W, tb, g, hO, hg, ⟨(hX1 4 5 (by omega)).1.trans b1, b2.kept hX1 (fun _ => by omega) (fun _ => by omega), b3.kept hX1 (fun _ => by omega), b4.kept hX1 (fun _ => by omega) (fun _ => by omega) (fun _ => by omega), Or.inr ⟨e1, e2⟩, b6.kept hX1 (by omega) (by omega), b7.kept hX1 (by omega) (by omega), b8.kept hX1 (by omega) (by omega), b9.kept hX1 (by omega) (by omega) (fun _ => by omega), b10.kept hX1 (by omega) (by omega) (by omega) (fun _ => by omega), b11.kept hO.2.1 hX1 (by omega) (by omega) (fun _ _ _ _ => by omega)⟩, ⟨d1.kept2 hX2 (fun _ _ _ => by omega) (fun _ => by omega), fun j hj => (hX2 3 j (by omega)).1.trans (d2 j hj), Or.inr ⟨e4, e5⟩, d4.kept hX2 (by omega), d5.kept hX2 (by omega), d6.kept hX2 (by omega) (by omega) (fun _ => by omega), d7.kept hX2 (by omega) (by omega) (by omega) (fun _ => by omega), d8.kept hX2 (by omega) (by omega) (fun _ => by omega)⟩⟩⟩
    refine ⟨o_before (n := 993) (by rw [b1]; decide) hw hm b5 d3 nxt, o_beforeAt (n := 993) (by rw [b1]; decide) hw hm b5 d3 nxt, o_ways (n := 994) (by rw [b1]; decide) hw hm hf b6 d3 (fun σ1' σ2' hX1 e0 e1 e2 e3 hX2 e4 e5 => ?_)⟩
    unfold pN at hX1
    unfold pM at hX2
    have hB : cB σ1' K W c tb g := by
      unfold cB fB
      rw [e3 6 (by decide), e3 7 (by decide), show σ1'.1 39 = σ1.1 39 from funext fun j => (hX1 39 j (by omega)).1]
      exact b5
    exact ⟨sz, tx, c, hT.kept hX1 hX2 (by omega) (fun _ => by omega) (by omega) (fun _ => by omega), hr.kept hX1 hX2 (by omega) (fun _ => by omega) (by omega) (fun _ => by omega), e0, Or.inr ⟨K, W, tb, g, hO, hg, ⟨(hX1 4 5 (by omega)).1.trans b1, b2.kept hX1 (fun _ => by omega) (fun _ => by omega), b3.kept hX1 (fun _ => by omega), b4.kept hX1 (fun _ => by omega) (fun _ => by omega) (fun _ => by omega), hB, Or.inr ⟨e1, e2⟩, b7.kept hX1 (by omega) (by omega), b8.kept hX1 (by omega) (by omega), b9.kept hX1 (by omega) (by omega) (fun _ => by omega), b10.kept hX1 (by omega) (by omega) (by omega) (fun _ => by omega), b11.kept hO.2.1 hX1 (by omega) (by omega) (fun _ _ _ _ => by omega)⟩, ⟨d1.kept2 hX2 (fun _ _ _ => by omega) (fun _ => by omega), fun j hj => (hX2 3 j (by omega)).1.trans (d2 j hj), Or.inr ⟨e4, e5⟩, d4.kept hX2 (by omega), d5.kept hX2 (by omega), d6.kept hX2 (by omega) (by omega) (fun _ => by omega), d7.kept hX2 (by omega) (by omega) (by omega) (fun _ => by omega), d8.kept hX2 (by omega) (by omega) (fun _ => by omega)⟩⟩⟩
theorem Rl_step (v1 v2 : gs_V) (h : Rl i σ1 σ2) : lSt l v1 v2 1000 σ1 σ2 (Rl (i + 1)) := fun x y => by
  have hi := s_inv (l := l) (v1 := v1) (v2 := v2) (x := x) h
  have hw := s_wts (l := l) (v1 := v1) (v2 := v2) (x := x) (y := y) h
  have ho := s_orph (l := l) (v1 := v1) (v2 := v2) (x := x) h
  have hp := s_past (l := l) (v1 := v1) (v2 := v2) (x := x) h
  exact ⟨h, s_load h, s_rule h, s_next h, s_ring h, s_set h, s_get h, s_step h, s_population h, s_surjective h, s_injective h, hi.1, hi.2, hw.1, hw.2, ho.1, ho.2, hp.1, hp.2.1, hp.2.2⟩
end K41
