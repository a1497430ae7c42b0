/-! Past.find, Past.count: the class's caches of the rings before. -/
def hB (K W c : Nat) (tb g : Nat → Nat) : Prop := ∃ b, b < K ^ (W - 1) ∧ bS K W c tb g b c b
def bst (K W c : Nat) (tb g : Nat → Nat) (b : Nat) : Prop := b < K ^ (W - 1) ∧ bS K W c tb g b c b ∧ ∀ b', b' < b → ¬ bS K W c tb g b' c b'
/-- what find() leaves -/
def fB (σ : gs_S) (K W c : Nat) (tb g : Nat → Nat) : Prop := (σ.1 37 7 = 1 ∧ ∃ b, bst K W c tb g b ∧ ∀ r, r < c → σ.1 39 r = nI (eE K W c tb g b r)) ∨ (σ.1 37 7 = 0 ∧ ¬ hB K W c tb g)
def cB (σ : gs_S) (K W c : Nat) (tb g : Nat → Nat) : Prop := σ.1 37 6 = 0 ∨ (σ.1 37 6 = 1 ∧ fB σ K W c tb g)
def sm (F : Nat → Int64) : Nat → Int64
  | 0 => 0
  | u + 1 => sm F u + F u
def st8 (K W : Nat) (tb : Nat → Nat) (s : Nat) (F : Nat → Int64) (y : Nat) : Int64 := sm (fun u => if tb u = s ∧ u % K ^ (W - 1) = y then F (u / K) else 0) (K ^ W)
def wy (K W c : Nat) (tb g : Nat → Nat) (b : Nat) : Nat → Nat → Int64
  | 0, y => if y = b then 1 else 0
  | t + 1, y => st8 K W tb (dd W c g t) (wy K W c tb g b t) y
def tot (K W c : Nat) (tb g : Nat → Nat) : Int64 := sm (fun b => wy K W c tb g b c b) (K ^ (W - 1))
theorem sm_congr {F G : Nat → Int64} : ∀ m, (∀ u, u < m → F u = G u) → sm F m = sm G m
  | 0, _ => rfl
  | m + 1, h => by
    show sm F m + F m = sm G m + G m
    rw [sm_congr m (fun u hu => h u (by omega)), h m (by omega)]
theorem st8_congr {K W s : Nat} {tb : Nat → Nat} {F G : Nat → Int64} (hR : okR K W tb) (h : ∀ y, y < K ^ (W - 1) → F y = G y) (y : Nat) : st8 K W tb s F y = st8 K W tb s G y :=
  sm_congr _ (fun u hu => by rw [h _ (div_lt' hR hu)])
/-- the two rows of counts, either way round -/
def rfs (σ : gs_S) : Prop := (σ.2.2 37 4 = 40 ∧ σ.2.2 37 5 = 41) ∨ (σ.2.2 37 4 = 41 ∧ σ.2.2 37 5 = 40)
section K10
variable {l : Launch} {v : gs_V} {n : Nat} {σ : gs_S} {K W c : Nat} {tb g : Nat → Nat}
theorem k_find {post : gs_S → Prop} (hw : cW σ K W c tb g) (hc : cB σ K W c tb g) (hp : ∀ σ', sX (fun k j => (k = 37 ∧ (j = 6 ∨ j = 7)) ∨ k = 38 ∨ k = 39) σ σ' → σ'.1 37 6 = 1 → fB σ' K W c tb g → post σ') : gM l v lyC 42 me_H_find (n + 5) [.ref (v.2.2 37)] σ (qV v lyC 42 post) := by
  have hw0 := hw
  obtain ⟨hR, hC, hF, hSo, hc1, hc2, ec, eg, hg⟩ := hw
  have hN := pw_le1 hR.2.1 hR.2.2.2.1
  refine E_H_find (T_H_find_0 ?_)
  rcases hc with h0 | ⟨h1, hf⟩
  · refine br_t h0 ?_
    have done : ∀ τ x, sX (fun k j => (k = 37 ∧ (j = 6 ∨ j = 7)) ∨ k = 38 ∨ k = 39) σ τ → τ.1 37 6 = 1 → τ.1 37 7 = 1 → (∃ b, bst K W c tb g b ∧ ∀ r, r < c → τ.1 39 r = nI (eE K W c tb g b r)) → G_H_find_20 l v (n + 4) post τ x := fun τ x hX h6 h7 hb =>
      T_H_find_20 ⟨fun _ => T_H_find_62 (hp τ hX h6 (Or.inl ⟨h7, hb⟩)), fun _ => ⟨fun _ => T_H_find_62 (hp τ hX h6 (Or.inl ⟨h7, hb⟩)), fun h => absurd (h7.symm.trans h) (by decide)⟩⟩
    have loop : ∀ i, i ≤ K ^ (W - 1) → ∀ τ, sX (fun k j => (k = 37 ∧ (j = 6 ∨ j = 7)) ∨ k = 38 ∨ k = 39) σ τ → τ.1 37 6 = 1 → τ.1 37 7 = 0 → (∀ b', b' < i → ¬ bS K W c tb g b' c b') → G_H_find_20 l v (n + 4) post τ (nI i) := by
      refine dn ?_ ?_
      · intro τ hX h6 h7 hI
        refine T_H_find_20 (br_t (by rw [(hX 4 9 (by omega)).1, hC.2.2.2.1]; exact nI_le (Nat.le_refl _) (by omega)) (T_H_find_62 (hp τ hX h6 (Or.inr ⟨h7, ?_⟩))))
        rintro ⟨b, hb, hS⟩
        exact hI b hb hS
      · intro i hi ih τ hX h6 h7 hI
        have hwτ : cW τ K W c tb g := hw0.kept hX (fun k j _ _ => by omega)
        refine T_H_find_20 (br_f (by rw [(hX 4 9 (by omega)).1, hC.2.2.2.1]; exact nI_ge hi (by omega)) ⟨fun h => absurd h7 h, fun _ => ?_⟩)
        refine k_comesBackTo hwτ hi (fun τ' hX' ho => ⟨fun hS => br_f (by decide) ?_, fun hS => br_t rfl (T_H_find_56 ?_)⟩)
        · have hX2 : sX (fun k j => (k = 37 ∧ (j = 6 ∨ j = 7)) ∨ k = 38 ∨ k = 39) σ (gs_pI τ' 37 7 1) := (hX.tr (hX'.mono (fun k j h => by omega))).I (by omega)
          refine k_trace (hw0.kept hX2 (fun k j _ _ => by omega)) hi hS ho (fun τ'' hX'' hl => T_H_find_56 ?_)
          refine done τ'' _ (hX2.tr (hX''.mono (fun k j h => by omega))) ?_ ?_ ⟨i, ⟨hi, hS, hI⟩, hl⟩
          · rw [(hX'' 37 6 (by omega)).1, pI_j (by decide), (hX' 37 6 (by omega)).1]; exact h6
          · rw [(hX'' 37 7 (by omega)).1, pI_eq]
        · rw [nI_1]
          refine ih τ' (hX.tr (hX'.mono (fun k j h => by omega))) ((hX' 37 6 (by omega)).1.trans h6) ((hX' 37 7 (by omega)).1.trans h7) (fun b' hb' => ?_)
          rcases Nat.lt_or_ge b' i with h9 | h9
          · exact hI b' h9
          · rw [show b' = i by omega]; exact hS
    exact loop 0 (Nat.zero_le _) _ ((sX.rf.I (by omega)).I (by omega)) (by rw [pI_j (by decide), pI_eq]) pI_eq (fun b' h => absurd h (Nat.not_lt_zero b'))
  · exact br_f (by rw [h1]; decide) (hp σ sX.rf h1 hf)
theorem k_rangeCheck {post : gs_S → Prop} {a b : Nat} (hb : b ≤ a) (ha : a < 2 ^ 31) (hp : post σ) : gM l v lyC 42 me_Y_rangeCheck (n + 1) [.int (Int32.ofNat a), .int 0, .int (nI b)] σ (qV v lyC 42 post) :=
  E_Y_rangeCheck (T_Y_rangeCheck_0 (br_t (nI_pos' (by omega)) (br_t (by decide) (br_t (nI_le hb ha) hp))))
theorem k_fillR {post : gs_S → Prop} {q len m : Nat} {x : Int64} (hq : q < 42 ∧ lyC q = .inl (1, len, 0)) (hl : len < 2 ^ 31) (hm : m ≤ len) (hp : post (gs_pB σ q (fl64 (σ.2.1 q) m x))) : gM l v lyC 42 me_Y_fillR (n + 2) [.ref (v.2.2 q), .int 0, .int (nI m), .long x] σ (qV v lyC 42 post) := by
  refine E_Y_fillR (T_Y_fillR_0 hq (k_rangeCheck hm hl ?_))
  have h := dn0 (N := m) (P := fun i => G_Y_fillR_10 l v (n + 1) post (gs_pB σ q (fl64 (σ.2.1 q) i x)) q (nI m) x (nI i)) ?_ ?_
  · rw [fl64_0, pB_id] at h
    exact h
  · exact T_Y_fillR_10 hq (br_t (nI_le (Nat.le_refl m) (by omega)) hp)
  · intro i hi ih
    refine T_Y_fillR_10 hq (br_f (nI_ge hi (by omega)) ⟨vp_in_nI (by omega) hl, ?_⟩)
    rw [nI_clamp (by omega), pL_pB, fl64_s, nI_1]
    exact ih
theorem k_goOn {post : gs_S → Prop} {s : Nat} {F : Nat → Int64} (hR : okR K W tb) (hC : cR σ K W tb) (hSo : cS σ K W tb) (hs : s < K) (hr : rfs σ) (hF : ∀ y, y < K ^ (W - 1) → σ.2.1 (σ.2.2 37 4) y = F y)
    (hp : ∀ σ', sX (fun k j => k = 40 ∨ k = 41 ∨ (k = 37 ∧ (j = 4 ∨ j = 5))) σ σ' → rfs σ' → σ'.1 37 = σ.1 37 → σ'.2.1 37 = σ.2.1 37 → (∀ y, y < K ^ (W - 1) → σ'.2.1 (σ'.2.2 37 4) y = st8 K W tb s F y) → post σ') : gM l v lyC 42 me_H_goOn (n + 3) [.ref (v.2.2 37), .int (nI s)] σ (qV v lyC 42 post) := by
  have hN := pw_le1 hR.2.1 hR.2.2.2.1
  have hNp := pw_pos (W := W - 1) hR.1
  have hKW := pw_le hR.2.1 hR.2.2.2.1
  have hK := hR.2.1
  obtain ⟨p, q, ep, eq, hp2, hq2, hpq, hpq40⟩ : ∃ p q, σ.2.2 37 4 = p ∧ σ.2.2 37 5 = q ∧ (p < 42 ∧ lyC p = .inl (1, 64, 0)) ∧ (q < 42 ∧ lyC q = .inl (1, 64, 0)) ∧ p ≠ q ∧ ((p = 40 ∧ q = 41) ∨ (p = 41 ∧ q = 40)) := by
    rcases hr with ⟨h1, h2⟩ | ⟨h1, h2⟩
    · exact ⟨40, 41, h1, h2, ⟨by decide, rfl⟩, ⟨by decide, rfl⟩, by decide, Or.inl ⟨rfl, rfl⟩⟩
    · exact ⟨41, 40, h1, h2, ⟨by decide, rfl⟩, ⟨by decide, rfl⟩, by decide, Or.inr ⟨rfl, rfl⟩⟩
  rw [ep] at hF
  refine E_H_goOn (T_H_goOn_0 ?_)
  rw [ep, eq, nI_1, nI_clamp (by omega), hSo.1 (s + 1) (by omega), hC.2.2.2.1]
  refine ⟨vp_in_nI (by omega) (by decide), k_fillR hq2 (by decide) hN ⟨vp_in_nI (by omega) (by decide), ?_⟩⟩
  rw [nI_clamp (by omega)]
  have hX0 : sX (fun k _ => k = q) σ (gs_pB σ q (fl64 (σ.2.1 q) (K ^ (W - 1)) 0)) := sX.rf.B (fun _ => rfl)
  have loop : ∀ w, w ≤ K ^ W → ∀ τ, sX (fun k _ => k = q) σ τ → (∀ y, y < K ^ (W - 1) → τ.2.1 q y = sm (fun u => if tb u = s ∧ u % K ^ (W - 1) = y then F (u / K) else 0) w) → G_H_goOn_65 l v (n + 2) post τ p q (nI (cl tb (s + 1) (K ^ W))) (nI (cl tb s (K ^ W) + cn32 tb s w)) := by
    have hcl := cl_le tb (s + 1) (K ^ W)
    refine dn ?_ ?_
    · intro τ hX hI
      refine T_H_goOn_65 hp2 hq2 (br_t ?_ ?_)
      · rw [cl_s]; exact nI_le (Nat.le_refl _) (by rw [← cl_s]; omega)
      · refine hp _ (((hX.mono (fun k j h => by omega)).R (by omega)).R (by omega)) ?_ (funext fun j => (hX 37 j (by omega)).1) ?_ (fun y hy => ?_)
        · show (rfs (gs_pR (gs_pR τ 37 4 q) 37 5 p))
          have e4 : (gs_pR (gs_pR τ 37 4 q) 37 5 p).2.2 37 4 = q := by simp [gs_pR, va_up]
          have e5 : (gs_pR (gs_pR τ 37 4 q) 37 5 p).2.2 37 5 = p := by simp [gs_pR, va_up]
          unfold rfs
          rw [e4, e5]
          omega
        · show τ.2.1 37 = σ.2.1 37
          funext j
          exact (hX 37 j (by omega)).2.1
        · have e4 : (gs_pR (gs_pR τ 37 4 q) 37 5 p).2.2 37 4 = q := by simp [gs_pR, va_up]
          rw [e4]
          exact hI y hy
    · intro w hw ih τ hX hI
      have hSτ : cS τ K W tb := hSo.kept hX (fun _ => by omega) (fun _ => by omega) (fun _ => by omega)
      by_cases he : tb w = s
      · have hat : cl tb s (K ^ W) + cn32 tb s w = po tb (K ^ W) w := by unfold po; rw [he]
        have hlt := po_lt tb hw
        rw [he] at hlt
        have hpT := po_T tb hw
        have hd := div_lt' hR hw
        have hm : w % K ^ (W - 1) < K ^ (W - 1) := Nat.mod_lt _ hNp
        have ih' : ∀ τ, sX (fun k _ => k = q) σ τ → (∀ y, y < K ^ (W - 1) → τ.2.1 q y = sm (fun u => if tb u = s ∧ u % K ^ (W - 1) = y then F (u / K) else 0) w + (if tb w = s ∧ w % K ^ (W - 1) = y then F (w / K) else 0)) → G_H_goOn_65 l v (n + 2) post τ p q (nI (cl tb (s + 1) (K ^ W))) (nI (cl tb s (K ^ W) + (cn32 tb s w + (if tb w = s then 1 else 0)))) := ih
        rw [hat]
        refine T_H_goOn_65 hp2 hq2 (br_f (nI_ge hlt (by omega)) ?_)
        rw [nI_clamp (n := po tb (K ^ W) w) (by omega), (hSτ.2 w hw).1, (hSτ.2 w hw).2, nI_clamp (n := w % K ^ (W - 1)) (by omega), nI_clamp (n := w / K) (by omega), nI_1]
        refine ⟨vp_in_nI (by omega) (by decide), vp_in_nI (by omega) (by decide), vp_in_nI (by omega) (by decide), vp_in_nI (by omega) (by decide), vp_in_nI (by omega) (by decide), ?_⟩
        have q9 := ih' (gs_pL τ q (w % K ^ (W - 1)) (τ.2.1 q (w % K ^ (W - 1)) + τ.2.1 p (w / K))) (hX.L rfl) (fun y hy => ?_)
        · rw [if_pos he, ← Nat.add_assoc, hat] at q9
          exact q9
        · rw [pL_row]
          show (if y = w % K ^ (W - 1) then _ else τ.2.1 q y) = _
          by_cases hy2 : y = w % K ^ (W - 1)
          · rw [if_pos hy2, if_pos ⟨he, hy2.symm⟩, ← hy2, hI y hy, (hX p _ hpq).2.1, hF _ hd]
          · rw [if_neg hy2, if_neg (fun z => hy2 z.2.symm), hI y hy, Int64.add_zero]
      · have q9 := ih τ hX (fun y hy => by
          show _ = sm (fun u => if tb u = s ∧ u % K ^ (W - 1) = y then F (u / K) else 0) w + (if tb w = s ∧ w % K ^ (W - 1) = y then F (w / K) else 0)
          rw [if_neg (fun z => he z.1), Int64.add_zero]
          exact hI y hy)
        have e9 : cn32 tb s (w + 1) = cn32 tb s w := by
          show cn32 tb s w + (if tb w = s then 1 else 0) = _
          rw [if_neg he]
          rfl
        rw [e9] at q9
        exact q9
  have h9 : (gs_pB σ q (fl64 (σ.2.1 q) (K ^ (W - 1)) 0)).1 9 s = nI (cl tb s (K ^ W)) := hSo.1 s (by omega)
  rw [h9]
  refine loop 0 (Nat.zero_le _) _ hX0 (fun y hy => ?_)
  rw [pB_row]
  show (if y < K ^ (W - 1) then (0 : Int64) else _) = 0
  rw [if_pos hy]
theorem k_walksBackTo {post : Int64 → gs_S → Prop} {b : Nat} (hw : cW σ K W c tb g) (hb : b < K ^ (W - 1)) (hr : rfs σ) (hp : ∀ σ', sX (fun k j => k = 40 ∨ k = 41 ∨ (k = 37 ∧ (j = 4 ∨ j = 5))) σ σ' → rfs σ' → σ'.1 37 = σ.1 37 → σ'.2.1 37 = σ.2.1 37 → post (wy K W c tb g b c b) σ') : gM l v lyC 42 me_H_walksBackTo (n + 4) [.ref (v.2.2 37), .int (nI b)] σ (qL v lyC 42 post) := by
  have hw0 := hw
  obtain ⟨hR, hC, hF, hSo, hc1, hc2, ec, eg, hg⟩ := hw
  have hN := pw_le1 hR.2.1 hR.2.2.2.1
  have ok : ∀ τ : gs_S, rfs τ → τ.2.2 37 4 < 42 ∧ lyC (τ.2.2 37 4) = .inl (1, 64, 0) := by
    intro τ h
    rcases h with ⟨h1, h2⟩ | ⟨h1, h2⟩ <;> rw [h1] <;> exact ⟨by decide, rfl⟩
  have ok2 : ∀ τ : gs_S, rfs τ → τ.2.2 37 4 = 40 ∨ τ.2.2 37 4 = 41 := by
    intro τ h
    rcases h with ⟨h1, h2⟩ | ⟨h1, h2⟩
    · exact Or.inl h1
    · exact Or.inr h1
  have loop : ∀ t, t ≤ c → ∀ τ, sX (fun k j => k = 40 ∨ k = 41 ∨ (k = 37 ∧ (j = 4 ∨ j = 5))) σ τ → rfs τ → τ.1 37 = σ.1 37 → τ.2.1 37 = σ.2.1 37 → (∀ y, y < K ^ (W - 1) → τ.2.1 (τ.2.2 37 4) y = wy K W c tb g b t y) → G_H_walksBackTo_17 l v (n + 3) post τ (nI b) (nI t) := by
    refine dn ?_ ?_
    · intro τ hX h1 h2 h3 h4
      refine T_H_walksBackTo_17 (br_t (by rw [(hX 10 1 (by omega)).1, ec]; exact nI_le (Nat.le_refl c) (by omega)) ⟨ok τ h1, vp_in_nI (by omega) (by decide), ?_⟩)
      rw [nI_clamp (by omega), h4 b hb]
      exact hp τ hX h1 h2 h3
    · intro t ht ih τ hX h1 h2 h3 h4
      have hwτ : cW τ K W c tb g := hw0.kept hX (fun k j _ _ => by omega)
      refine T_H_walksBackTo_17 (br_f (by rw [(hX 10 1 (by omega)).1, ec]; exact nI_ge ht (by omega)) (k_due hwτ (by omega) ?_))
      refine k_goOn hR hwτ.2.1 hwτ.2.2.2.1 (dd_lt hc1 hg t) h1 h4 (fun τ' hX' g1 g2 g3 g4 => ?_)
      rw [nI_1]
      exact ih τ' (hX.tr hX') g1 (g2.trans h2) (g3.trans h3) g4
  refine E_H_walksBackTo (T_H_walksBackTo_0 (k_fillJ (ok σ hr) (by decide) ⟨ok σ hr, vp_in_nI (by omega) (by decide), ?_⟩))
  rw [nI_clamp (by omega)]
  have h40 := ok2 σ hr
  have e0 : (gs_pB σ (σ.2.2 37 4) (fl64 (σ.2.1 (σ.2.2 37 4)) 64 0)).2.2 37 4 = σ.2.2 37 4 := rfl
  rw [e0, pL_pB]
  refine loop 0 (Nat.zero_le _) _ (sX.rf.B (fun j => by omega)) hr rfl ?_ (fun y hy => ?_)
  · exact pB_k (by omega)
  · show (gs_pB σ (σ.2.2 37 4) _).2.1 (σ.2.2 37 4) y = _
    rw [pB_row]
    show (if y = b then (1 : Int64) else if y < 64 then 0 else _) = (if y = b then 1 else 0)
    by_cases h : y = b
    · rw [if_pos h, if_pos h]
    · rw [if_neg h, if_neg h, if_pos (by omega)]
theorem k_count {post : Int64 → gs_S → Prop} (hw : cW σ K W c tb g) (hr : rfs σ) (hc : σ.1 37 8 = 0 ∨ (σ.1 37 8 = 1 ∧ σ.2.1 37 9 = tot K W c tb g)) (hp : ∀ σ', sX (fun k j => k = 40 ∨ k = 41 ∨ (k = 37 ∧ (j = 4 ∨ j = 5 ∨ j = 8 ∨ j = 9))) σ σ' → rfs σ' → σ'.1 37 8 = 1 → σ'.2.1 37 9 = tot K W c tb g → (∀ j, j ≠ 8 → σ'.1 37 j = σ.1 37 j) → post (tot K W c tb g) σ') : gM l v lyC 42 me_H_count (n + 5) [.ref (v.2.2 37)] σ (qL v lyC 42 post) := by
  have hw0 := hw
  obtain ⟨hR, hC, hF, hSo, hc1, hc2, ec, eg, hg⟩ := hw
  have hN := pw_le1 hR.2.1 hR.2.2.2.1
  refine E_H_count (T_H_count_0 ?_)
  rcases hc with h0 | ⟨h1, h2⟩
  · refine ⟨fun h => absurd h0 h, fun _ => ?_⟩
    have loop : ∀ i, i ≤ K ^ (W - 1) → ∀ τ, sX (fun k j => k = 40 ∨ k = 41 ∨ (k = 37 ∧ (j = 4 ∨ j = 5 ∨ j = 8 ∨ j = 9))) σ τ → rfs τ → τ.1 37 8 = 1 → τ.2.1 37 9 = sm (fun b => wy K W c tb g b c b) i → (∀ j, j ≠ 8 → τ.1 37 j = σ.1 37 j) → G_H_count_19 l v (n + 4) post τ (nI i) := by
      refine dn ?_ ?_
      · intro τ hX h1 h2 h3 h4
        refine T_H_count_19 (br_t (by rw [(hX 4 9 (by omega)).1, hC.2.2.2.1]; exact nI_le (Nat.le_refl _) (by omega)) (T_H_count_50 ?_))
        rw [h3]
        exact hp τ hX h1 h2 h3 h4
      · intro i hi ih τ hX h1 h2 h3 h4
        have hwτ : cW τ K W c tb g := hw0.kept hX (fun k j _ _ => by omega)
        refine T_H_count_19 (br_f (by rw [(hX 4 9 (by omega)).1, hC.2.2.2.1]; exact nI_ge hi (by omega)) ?_)
        refine k_walksBackTo hwτ hi h1 (fun τ' hX' g1 g2 g3 => ?_)
        rw [nI_1]
        refine ih _ ((hX.tr (hX'.mono (fun k j h => by omega))).L (by omega)) ?_ ?_ ?_ ?_
        · exact g1
        · rw [pL_1, g2]; exact h2
        · rw [pL_eq, h3]; rfl
        · intro j hj
          rw [pL_1, g2]; exact h4 j hj
    refine loop 0 (Nat.zero_le _) _ ((sX.rf.I (by omega)).L (by omega)) hr ?_ ?_ ?_
    · rw [pL_1, pI_eq]
    · rw [pL_eq]; rfl
    · intro j hj; rw [pL_1, pI_j hj]
  · refine ⟨fun _ => ?_, fun h => absurd (h1.symm.trans h) (by decide)⟩
    exact T_H_count_50 (by rw [h2]; exact hp σ sX.rf hr h1 h2 (fun _ _ => rfl))
end K10
