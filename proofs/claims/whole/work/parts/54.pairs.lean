/-! Pairs: partAt, meetsBehind, partAndMeet of the class. -/
def sn (σ : gs_S) (K W : Nat) (tb : Nat → Nat) : Prop := ∀ a y, a < 64 → y < 64 → bt (σ.2.1 15 a) y = true → Mt K W tb a y
def mo (σ τ : gs_S) : Prop := ∀ a y, bt (σ.2.1 15 a) y = true → bt (τ.2.1 15 a) y = true
def dk (σ : gs_S) (K W : Nat) (tb : Nat → Nat) : Prop := ∀ a y, a < 64 → y < 64 → bt (σ.2.1 16 a) y = true → bt (σ.2.1 15 a) y = true ∧ ¬ mts K W tb a y ∧ ∀ x' y', go2 K W tb a y x' y' → bt (σ.2.1 15 x') y' = true
def ini (σ : gs_S) (K W : Nat) (tb : Nat → Nat) : Prop := ∀ u w, u < w → w < K ^ W → u / K = w / K → tb u = tb w → bt (σ.2.1 15 (u % K ^ (W - 1))) (w % K ^ (W - 1)) = true
def cnD9 (σ : gs_S) : Nat := cq (fun p => bt (σ.2.1 16 (p / 64)) (p % 64)) 4096
theorem mo.tr {σ τ ρ : gs_S} (h1 : mo σ τ) (h2 : mo τ ρ) : mo σ ρ := fun a y h => h2 a y (h1 a y h)
theorem mo.or {σ τ : gs_S} {k : Nat} {X : Int64} (h1 : mo σ τ) : mo σ (gs_pL τ 15 k (τ.2.1 15 k ||| X)) := fun a y h => by
  rw [pL_row]
  show bt (if a = k then _ else τ.2.1 15 a) y = true
  by_cases e : a = k
  · rw [if_pos e, bt_or, ← e, h1 a y h]; rfl
  · rw [if_neg e]; exact h1 a y h
theorem or_in {τ : gs_S} {k y : Nat} {X : Int64} (h : bt X y = true) : bt ((gs_pL τ 15 k (τ.2.1 15 k ||| X)).2.1 15 k) y = true := by
  rw [pL_eq, bt_or, h, Bool.or_true]
theorem sn.or {τ : gs_S} {K W : Nat} {tb : Nat → Nat} {k : Nat} {X : Int64} (h1 : sn τ K W tb) (h2 : ∀ y, y < 64 → bt X y = true → Mt K W tb k y) : sn (gs_pL τ 15 k (τ.2.1 15 k ||| X)) K W tb := fun a y ha hy h => by
  rw [pL_row] at h
  have h : bt (if a = k then (τ.2.1 15 k ||| X) else τ.2.1 15 a) y = true := h
  by_cases e : a = k
  · rw [if_pos e, bt_or, Bool.or_eq_true] at h
    subst e
    rcases h with h | h
    · exact h1 a y ha hy h
    · exact h2 y hy h
  · rw [if_neg e] at h; exact h1 a y ha hy h
section K14
variable {l : Launch} {v : gs_V} {n : Nat} {σ : gs_S} {K W : Nat} {tb : Nat → Nat}
theorem k_partAt {post : gs_S → Prop} {x : Nat} (hR : okR K W tb) (hC : cR σ K W tb) (hx : x < K ^ (W - 1)) (hs : sn σ K W tb) (hp : ∀ σ', sX (fun k _ => k = 15) σ σ' → sn σ' K W tb → mo σ σ' → (∀ u w, u < w → w < K ^ W → u / K = x → w / K = x → tb u = tb w → bt (σ'.2.1 15 (u % K ^ (W - 1))) (w % K ^ (W - 1)) = true) → post σ') : gM l v lyC 42 me_P_partAt (n + 2) [.ref (v.2.2 14), .int (nI x)] σ (qV v lyC 42 post) := by
  have hN := pw_le1 hR.2.1 hR.2.2.2.1
  have hNp := pw_pos (W := W - 1) hR.1
  have hKW := pw_le hR.2.1 hR.2.2.2.1
  have hK := hR.2.1
  have hK2 := hR.1
  have hlast : x * K + K ≤ K ^ W := by
    rw [pw_s hR.2.2.1]
    have : (x + 1) * K ≤ K ^ (W - 1) * K := Nat.mul_le_mul_right K hx
    rw [Nat.add_mul] at this
    omega
  have hrange : ∀ u, u / K = x → x * K ≤ u ∧ u < x * K + K := fun u hu => by
    have h1 := Nat.div_add_mod u K
    have h2 := Nat.mod_lt u (show 0 < K by omega)
    rw [hu, Nat.mul_comm] at h1
    omega
  have hdiv : ∀ c, c < K → (x * K + c) / K = x := fun c hc => by
    rw [Nat.mul_comm, Nat.mul_add_div (by omega), Nat.div_eq_of_lt hc, Nat.add_zero]
  have L12 : ∀ c, c ≤ K → ∀ τ, sX (fun k _ => k = 15) σ τ → sn τ K W tb → mo σ τ → (∀ u w, u < w → w < K ^ W → u / K = x → w / K = x → tb u = tb w → u < x * K + c → bt (τ.2.1 15 (u % K ^ (W - 1))) (w % K ^ (W - 1)) = true) → G_P_partAt_12 l v (n + 1) post τ (nI (x * K)) (nI (x * K + c)) := by
    refine dn ?_ ?_
    · intro τ hX h1 h2 h3
      refine T_P_partAt_12 (br_t (by rw [(hX 4 6 (by omega)).1, hC.1, nI_add]; exact nI_le (Nat.le_refl _) (by omega)) (hp τ hX h1 h2 (fun u w a1 a2 a3 a4 a5 => h3 u w a1 a2 a3 a4 a5 (hrange u a3).2)))
    · intro c hc ih τ hX h1 h2 h3
      refine T_P_partAt_12 (br_f (by rw [(hX 4 6 (by omega)).1, hC.1, nI_add]; exact nI_ge (by omega) (by omega)) ?_)
      have L30 : ∀ d, d ≤ K → c < d → ∀ τ, sX (fun k _ => k = 15) σ τ → sn τ K W tb → mo σ τ → (∀ u w, u < w → w < K ^ W → u / K = x → w / K = x → tb u = tb w → u < x * K + c ∨ (u = x * K + c ∧ w < x * K + d) → bt (τ.2.1 15 (u % K ^ (W - 1))) (w % K ^ (W - 1)) = true) → G_P_partAt_30 l v (n + 1) post τ (nI (x * K)) (nI (x * K + c)) (nI (x * K + d)) := by
        refine dn ?_ ?_
        · intro _ τ hX h1 h2 h3
          refine T_P_partAt_30 (br_t (by rw [(hX 4 6 (by omega)).1, hC.1, nI_add]; exact nI_le (Nat.le_refl _) (by omega)) ?_)
          rw [nI_1, Nat.add_assoc]
          refine ih τ hX h1 h2 (fun u w a1 a2 a3 a4 a5 a6 => h3 u w a1 a2 a3 a4 a5 ?_)
          rcases Nat.lt_or_ge u (x * K + c) with q | q
          · exact Or.inl q
          · exact Or.inr ⟨by omega, (hrange w a4).2⟩
        · intro d hd ih2 hcd τ hX h1 h2 h3
          have hCτ : cR τ K W tb := hC.kept hX (fun _ => by omega) (fun _ => by omega)
          have ht1 := hR.2.2.2.2 (x * K + c) (by omega)
          have ht2 := hR.2.2.2.2 (x * K + d) (by omega)
          have hm1 : (x * K + c) % K ^ (W - 1) < K ^ (W - 1) := Nat.mod_lt _ hNp
          have hm2 : (x * K + d) % K ^ (W - 1) < K ^ (W - 1) := Nat.mod_lt _ hNp
          refine T_P_partAt_30 (br_f (by rw [(hX 4 6 (by omega)).1, hC.1, nI_add]; exact nI_ge (by omega) (by omega)) ⟨vp_in_nI (by omega) (by decide), vp_in_nI (by omega) (by decide), ?_⟩)
          rw [nI_clamp (n := x * K + c) (by omega), nI_clamp (n := x * K + d) (by omega), hCτ.2.2.2.2 _ (by omega), hCτ.2.2.2.2 _ (by omega)]
          refine ⟨fun h => T_P_partAt_93 ?_, fun h => ?_⟩
          · rw [nI_1, Nat.add_assoc]
            refine ih2 (by omega) τ hX h1 h2 (fun u w a1 a2 a3 a4 a5 a6 => h3 u w a1 a2 a3 a4 a5 ?_)
            rcases a6 with a6 | ⟨a6, a7⟩
            · exact Or.inl a6
            · refine Or.inr ⟨a6, ?_⟩
              rcases Nat.lt_or_ge w (x * K + d) with q | q
              · exact q
              · exfalso
                have ew : w = x * K + d := by omega
                rw [a6, ew] at a5
                exact h (by rw [a5])
          · have he : tb (x * K + c) = tb (x * K + d) := (nI_nat (by omega) (by omega)).mp h
            refine k_R_end hR hCτ (by omega) ⟨vp_in_nI (by omega) (by decide), k_R_end hR hCτ (by omega) ⟨vp_in_nI (by omega) (by decide), T_P_partAt_93 ?_⟩⟩
            rw [nI_clamp (n := (x * K + c) % K ^ (W - 1)) (by omega), nI_1, Nat.add_assoc]
            refine ih2 (by omega) _ (hX.L rfl) (h1.or (fun y hy hb => ?_)) h2.or (fun u w a1 a2 a3 a4 a5 a6 => ?_)
            · rw [bt_one _ (show (x * K + d) % K ^ (W - 1) < 64 by omega) y hy, decide_eq_true_eq] at hb
              rw [hb]
              exact Mt.part (by omega) (by omega) ((hdiv c hc).trans (hdiv d hd).symm) he
            · by_cases q : u = x * K + c ∧ w = x * K + d
              · rw [q.1, q.2]
                exact or_in (by rw [bt_one _ (show (x * K + d) % K ^ (W - 1) < 64 by omega) _ (by omega)]; simp)
              · exact (mo.or (σ := τ) (τ := τ) (fun _ _ h => h)) _ _ (h3 u w a1 a2 a3 a4 a5 (by omega))
      rw [nI_1, Nat.add_assoc]
      exact L30 (c + 1) (by omega) (by omega) τ hX h1 h2 (fun u w a1 a2 a3 a4 a5 a6 => h3 u w a1 a2 a3 a4 a5 (by omega))
  refine E_P_partAt (T_P_partAt_0 ?_)
  rw [hC.1, pk_mul]
  exact L12 0 (Nat.zero_le _) σ sX.rf hs (fun _ _ h => h) (fun u w a1 a2 a3 a4 a5 a6 => absurd (hrange u a3).1 (by omega))
theorem k_meetsBehind {post : Int32 → gs_S → Prop} {a : Nat} {X : Int64} (hR : okR K W tb) (hC : cR σ K W tb) (hF : cF σ K W tb) (ha : a < K ^ (W - 1)) (hs : sn σ K W tb) (hX0 : ∀ y, y < 64 → bt X y = true → Mt K W tb a y)
    (hp1 : ∀ σ', sX (fun k _ => k = 15) σ σ' → dD K W tb → post 1 σ')
    (hp0 : ∀ σ', sX (fun k _ => k = 15) σ σ' → sn σ' K W tb → mo σ σ' → (∀ b, b < K ^ (W - 1) → bt X b = true → ¬ mts K W tb a b ∧ ∀ x' y', go2 K W tb a b x' y' → bt (σ'.2.1 15 x') y' = true) → post 0 σ') : gM l v lyC 42 me_P_meetsBehind (n + 2) [.ref (v.2.2 14), .int (nI a), .long X] σ (qI v lyC 42 post) := by
  have hN := pw_le1 hR.2.1 hR.2.2.2.1
  have hNp := pw_pos (W := W - 1) hR.1
  have hKW := pw_le hR.2.1 hR.2.2.2.1
  have hK := hR.2.1
  have hK2 := hR.1
  have hlast : a * K + K ≤ K ^ W := by
    rw [pw_s hR.2.2.1]
    have : (a + 1) * K ≤ K ^ (W - 1) * K := Nat.mul_le_mul_right K ha
    rw [Nat.add_mul] at this
    omega
  have hrange : ∀ u, u / K = a → ∃ c, c < K ∧ u = a * K + c := fun u hu => by
    have h1 := Nat.div_add_mod u K
    have h2 := Nat.mod_lt u (show 0 < K by omega)
    rw [hu, Nat.mul_comm] at h1
    exact ⟨u % K, h2, h1.symm⟩
  have hdiv : ∀ c, c < K → (a * K + c) / K = a := fun c hc => by
    rw [Nat.mul_comm, Nat.mul_add_div (by omega), Nat.div_eq_of_lt hc, Nat.add_zero]
  have L3 : ∀ b, b ≤ K ^ (W - 1) → ∀ τ, sX (fun k _ => k = 15) σ τ → sn τ K W tb → mo σ τ → (∀ b', b' < b → bt X b' = true → ¬ mts K W tb a b' ∧ ∀ x' y', go2 K W tb a b' x' y' → bt (τ.2.1 15 x') y' = true) → G_P_meetsBehind_3 l v (n + 1) post τ (nI a) X (nI b) := by
    refine dn ?_ ?_
    · intro τ hX h1 h2 h3
      exact T_P_meetsBehind_3 (br_t (by rw [(hX 4 9 (by omega)).1, hC.2.2.2.1]; exact nI_le (Nat.le_refl _) (by omega)) (hp0 τ hX h1 h2 h3))
    · intro b hb ih τ hX h1 h2 h3
      refine T_P_meetsBehind_3 (br_f (by rw [(hX 4 9 (by omega)).1, hC.2.2.2.1]; exact nI_ge hb (by omega)) ?_)
      rw [jU_bit X (show b < 64 by omega)]
      refine ⟨fun hbit => ?_, fun hbit => T_P_meetsBehind_122 ?_⟩
      · have hbit : bt X b = true := by
          cases q : bt X b with
          | false => exact absurd q hbit
          | true => rfl
        have L32 : ∀ c, c ≤ K → ∀ τ, sX (fun k _ => k = 15) σ τ → sn τ K W tb → mo σ τ → (∀ b', b' < b → bt X b' = true → ¬ mts K W tb a b' ∧ ∀ x' y', go2 K W tb a b' x' y' → bt (τ.2.1 15 x') y' = true) → (∀ u w, u < a * K + c → u / K = a → w < K ^ W → w / K = b → tb u = tb w → u % K ^ (W - 1) ≠ w % K ^ (W - 1) ∧ bt (τ.2.1 15 (u % K ^ (W - 1))) (w % K ^ (W - 1)) = true) → G_P_meetsBehind_32 l v (n + 1) post τ (nI a) X (nI b) (nI c) := by
          refine dn ?_ ?_
          · intro τ hX h1 h2 h3 h4
            refine T_P_meetsBehind_32 (br_t (by rw [(hX 4 6 (by omega)).1, hC.1]; exact nI_le (Nat.le_refl _) (by omega)) (T_P_meetsBehind_122 ?_))
            rw [nI_1]
            refine ih τ hX h1 h2 (fun b' hb' hx' => ?_)
            rcases Nat.lt_or_ge b' b with q | q
            · exact h3 b' q hx'
            · have e : b' = b := by omega
              subst e
              refine ⟨?_, ?_⟩
              · rintro ⟨z, u, w, g1, g2, g3, g4, g5, g6, g7⟩
                obtain ⟨c, hc, e2⟩ := hrange u g3
                exact (h4 u w (by omega) g3 g2 g4 g5).1 (g6.trans g7.symm)
              · rintro x' y' ⟨u, w, g1, g2, g3, g4, g5, g6, g7⟩
                obtain ⟨c, hc, e2⟩ := hrange u g3
                have := (h4 u w (by omega) g3 g2 g4 g5).2
                rw [g6, g7] at this
                exact this
          · intro c hc ih2 τ hX h1 h2 h3 h4
            have hCτ : cR τ K W tb := hC.kept hX (fun _ => by omega) (fun _ => by omega)
            have hFτ : cF τ K W tb := hF.kept hX (fun _ => by omega)
            have hu : a * K + c < K ^ W := by omega
            have ht := hR.2.2.2.2 _ hu
            have hm : (a * K + c) % K ^ (W - 1) < K ^ (W - 1) := Nat.mod_lt _ hNp
            refine T_P_meetsBehind_32 (br_f (by rw [(hX 4 6 (by omega)).1, hC.1]; exact nI_ge hc (by omega)) ?_)
            rw [hCτ.1, pk_mul, nI_add]
            refine k_R_end hR hCτ (by omega) ⟨vp_in_nI (by omega) (by decide), ?_⟩
            rw [nI_clamp (n := a * K + c) (by omega), hCτ.2.2.2.2 _ hu]
            refine k_behind (by omega) (by omega) ?_
            rw [jU_bit _ (show (a * K + c) % K ^ (W - 1) < 64 by omega), nI_clamp (n := (a * K + c) % K ^ (W - 1)) (by omega), nI_1]
            refine ⟨fun h => ⟨vp_in_nI (by omega) (by decide), vp_in_nI (by omega) (by decide), ?_⟩, fun h => ?_⟩
            · refine ih2 _ (hX.L rfl) (h1.or (fun y hy hb9 => ?_)) h2.or (fun b' hb' hx' => ?_) (fun u w g1 g2 g3 g4 g5 => ?_)
              · obtain ⟨w, e1, e2, e3, e4⟩ := (hFτ b _ y (by omega) (by omega) hy).mp hb9
                exact Mt.on (hX0 b (by omega) hbit) ⟨a * K + c, w, hu, e1, hdiv c hc, e2, e3.symm, rfl, e4⟩
              · have q := h3 b' hb' hx'
                exact ⟨q.1, fun x' y' g => (mo.or (σ := τ) (τ := τ) (fun _ _ h => h)) _ _ (q.2 x' y' g)⟩
              · rcases Nat.lt_or_ge u (a * K + c) with q | q
                · have q2 := h4 u w q g2 g3 g4 g5
                  exact ⟨q2.1, (mo.or (σ := τ) (τ := τ) (fun _ _ h => h)) _ _ q2.2⟩
                · have eu : u = a * K + c := by omega
                  subst eu
                  have hm2 : w % K ^ (W - 1) < K ^ (W - 1) := Nat.mod_lt _ hNp
                  have hin : bt (τ.2.1 6 (b * 4 + tb (a * K + c))) (w % K ^ (W - 1)) = true := (hFτ b _ _ (by omega) (by omega) (by omega)).mpr ⟨w, g3, g4, g5.symm, rfl⟩
                  refine ⟨fun e => ?_, or_in hin⟩
                  rw [← e, h] at hin
                  cases hin
            · have h : bt (τ.2.1 6 (b * 4 + tb (a * K + c))) ((a * K + c) % K ^ (W - 1)) = true := by
                cases q : bt (τ.2.1 6 (b * 4 + tb (a * K + c))) ((a * K + c) % K ^ (W - 1)) with
                | false => exact absurd q h
                | true => rfl
              obtain ⟨w, e1, e2, e3, e4⟩ := (hFτ b _ _ (by omega) (by omega) (by omega)).mp h
              exact hp1 τ hX ⟨a, b, hX0 b (by omega) hbit, _, a * K + c, w, hu, e1, hdiv c hc, e2, e3.symm, rfl, e4⟩
        refine L32 0 (Nat.zero_le _) τ hX h1 h2 h3 (fun u w g1 g2 _ _ _ => ?_)
        obtain ⟨c, _, e⟩ := hrange u g2
        omega
      · rw [nI_1]
        refine ih τ hX h1 h2 (fun b' hb' hx' => ?_)
        rcases Nat.lt_or_ge b' b with q | q
        · exact h3 b' q hx'
        · rw [show b' = b by omega, hbit] at hx'
          cases hx'
  exact E_P_meetsBehind (T_P_meetsBehind_0 (L3 0 (Nat.zero_le _) σ sX.rf hs (fun _ _ h => h) (fun b' h => absurd h (Nat.not_lt_zero b'))))
theorem Mt_lt (hR : okR K W tb) {x y : Nat} (h : Mt K W tb x y) : x < K ^ (W - 1) ∧ y < K ^ (W - 1) := by
  have hNp := pw_pos (W := W - 1) hR.1
  exact h (fun x y => x < K ^ (W - 1) ∧ y < K ^ (W - 1)) (fun u w _ _ _ _ => ⟨Nat.mod_lt _ hNp, Nat.mod_lt _ hNp⟩) (fun x y x' y' _ h2 => ⟨(go2_lt hR h2).2.2.1, (go2_lt hR h2).2.2.2⟩)
theorem k_partAndMeet {post : Int32 → gs_S → Prop} (hR : okR K W tb) (hC : cR σ K W tb) (hF : cF σ K W tb) (hp : ∀ σ', sX (fun k _ => k = 15 ∨ k = 16) σ σ' → (dD K W tb → post 1 σ') ∧ (¬ dD K W tb → post 0 σ')) : gM l v lyC 42 me_P_partAndMeet (n + 3) [.ref (v.2.2 14)] σ (qI v lyC 42 post) := by
  have hN := pw_le1 hR.2.1 hR.2.2.2.1
  have hNp := pw_pos (W := W - 1) hR.1
  have yes : ∀ τ, sX (fun k _ => k = 15 ∨ k = 16) σ τ → dD K W tb → post 1 τ := fun τ h q => (hp τ h).1 q
  have no : ∀ τ, sX (fun k _ => k = 15 ∨ k = 16) σ τ → ini τ K W tb → dk τ K W tb → (∀ a y, a < K ^ (W - 1) → y < 64 → bt (τ.2.1 15 a) y = true → bt (τ.2.1 16 a) y = true) → post 0 τ := by
    intro τ hX h1 h2 h3
    refine (hp τ hX).2 ?_
    rintro ⟨x, y, hM, hm⟩
    have all : Mt K W tb x y ∧ bt (τ.2.1 15 x) y = true := hM (fun x y => Mt K W tb x y ∧ bt (τ.2.1 15 x) y = true) (fun u w a1 a2 a3 a4 => ⟨Mt.part a1 a2 a3 a4, h1 u w a1 a2 a3 a4⟩) (fun x y x' y' ⟨b1, b2⟩ b3 => by
      have hl := Mt_lt hR b1
      exact ⟨Mt.on b1 b3, (h2 x y (by omega) (by omega) (h3 x y hl.1 (by omega) b2)).2.2 x' y' b3⟩)
    have hl := Mt_lt hR hM
    exact (h2 x y (by omega) (by omega) (h3 x y hl.1 (by omega) all.2)).2.1 hm
  have L44 : ∀ p, p ≤ 4097 → ∀ τ x1, sX (fun k _ => k = 15 ∨ k = 16) σ τ → sn τ K W tb → ini τ K W tb → dk τ K W tb → ((x1 = 1 ∧ p ≤ cnD9 τ) ∨ (x1 = 0 ∧ ∀ a y, a < K ^ (W - 1) → y < 64 → bt (τ.2.1 15 a) y = true → bt (τ.2.1 16 a) y = true)) → G_P_partAndMeet_44 l v (n + 2) post τ x1 (nI p) := by
    refine dn ?_ ?_
    · intro τ x1 hX h1 h2 h3 h4
      refine T_P_partAndMeet_44 ⟨fun _ => T_P_partAndMeet_133 ?_, fun h => absurd (show (4096 : Int32) < nI 4097 by decide) h⟩
      rcases h4 with ⟨_, h4⟩ | ⟨_, h4⟩
      · have : cnD9 τ ≤ 4096 := cq_le _ _
        omega
      · exact no τ hX h2 h3 h4
    · intro p hp' ih τ x1 hX h1 h2 h3 h4
      rcases h4 with ⟨e, h4⟩ | ⟨e, h4⟩
      · subst e
        have hple : ¬ (4096 : Int32) < nI p := by
          rw [Int32.not_lt]
          exact nI_le (a := p) (b := 4096) (by omega) (by omega)
        refine T_P_partAndMeet_44 (br_f hple (br_f (by decide) ?_))
        have L59 : ∀ a, a ≤ K ^ (W - 1) → ∀ τ x1, sX (fun k _ => k = 15 ∨ k = 16) σ τ → sn τ K W tb → ini τ K W tb → dk τ K W tb → ((x1 = 1 ∧ p + 1 ≤ cnD9 τ) ∨ (x1 = 0 ∧ p ≤ cnD9 τ ∧ ∀ a' y, a' < a → y < 64 → bt (τ.2.1 15 a') y = true → bt (τ.2.1 16 a') y = true)) → G_P_partAndMeet_59 l v (n + 2) post τ x1 (nI p) (nI a) := by
          refine dn ?_ ?_
          · intro τ x1 hX h1 h2 h3 h4
            refine T_P_partAndMeet_59 (br_t (by rw [(hX 4 9 (by omega)).1, hC.2.2.2.1]; exact nI_le (Nat.le_refl _) (by omega)) ?_)
            rw [nI_1]
            refine ih τ x1 hX h1 h2 h3 ?_
            rcases h4 with h4 | ⟨h4, h5, h6⟩
            · exact Or.inl h4
            · exact Or.inr ⟨h4, h6⟩
          · intro a ha ih2 τ x1 hX h1 h2 h3 h4
            have hCτ : cR τ K W tb := hC.kept hX (fun _ => by omega) (fun _ => by omega)
            have hFτ : cF τ K W tb := hF.kept hX (fun _ => by omega)
            have hfr : ∀ y, y < 64 → (bt (τ.2.1 15 a &&& (τ.2.1 16 a ^^^ -1)) y = true ↔ bt (τ.2.1 15 a) y = true ∧ bt (τ.2.1 16 a) y = false) := fun y hy => by
              rw [bt_and, bt_xor, bt_m1 y hy, Bool.and_eq_true, Bool.xor_true]
              cases bt (τ.2.1 16 a) y <;> simp
            refine T_P_partAndMeet_59 (br_f (by rw [(hX 4 9 (by omega)).1, hC.2.2.2.1]; exact nI_ge ha (by omega)) ⟨vp_in_nI (by omega) (by decide), vp_in_nI (by omega) (by decide), ?_⟩)
            rw [nI_clamp (by omega)]
            refine ⟨fun h0 => T_P_partAndMeet_121 ?_, fun h0 => ⟨vp_in_nI (by omega) (by decide), vp_in_nI (by omega) (by decide), ?_⟩⟩
            · rw [nI_1]
              refine ih2 τ x1 hX h1 h2 h3 ?_
              rcases h4 with h4 | ⟨h4, h5, h6⟩
              · exact Or.inl h4
              · refine Or.inr ⟨h4, h5, fun a' y ha' hy hb => ?_⟩
                rcases Nat.lt_or_ge a' a with q | q
                · exact h6 a' y q hy hb
                · rw [show a' = a by omega] at hb ⊢
                  have := bt_eq0.mp h0 y hy
                  cases q2 : bt (τ.2.1 16 a) y with
                  | true => rfl
                  | false => rw [(hfr y hy).mpr ⟨hb, q2⟩] at this; cases this
            · have hX1 : sX (fun k _ => k = 15 ∨ k = 16) σ (gs_pL τ 16 a (τ.2.1 16 a ||| (τ.2.1 15 a &&& (τ.2.1 16 a ^^^ -1)))) := hX.L (Or.inr rfl)
              have e15 : (gs_pL τ 16 a (τ.2.1 16 a ||| (τ.2.1 15 a &&& (τ.2.1 16 a ^^^ -1)))).2.1 15 = τ.2.1 15 := pL_k (by decide)
              refine k_meetsBehind hR (hC.kept hX1 (fun _ => by omega) (fun _ => by omega)) (hF.kept hX1 (fun _ => by omega)) ha (fun a' y ha' hy hb => h1 a' y ha' hy (by rw [← e15]; exact hb)) (fun y hy hb => h1 a y (by omega) hy ((hfr y hy).mp hb).1) (fun τ2 hX2 hD => br_f (by decide) (yes τ2 (hX1.tr (hX2.mono (fun k j h => Or.inl h))) hD)) (fun τ2 hX2 g1 g2 g3 => br_t rfl (T_P_partAndMeet_121 ?_))
              rw [nI_1]
              have e16 : τ2.2.1 16 = vp_updL (τ.2.1 16) a (τ.2.1 16 a ||| (τ.2.1 15 a &&& (τ.2.1 16 a ^^^ -1))) := by
                rw [← pL_row]
                funext j
                exact (hX2 16 j (by omega)).2.1
              have hin : ∀ a' y, bt (τ.2.1 15 a') y = true → bt (τ2.2.1 15 a') y = true := fun a' y hb => g2 a' y (by rw [e15]; exact hb)
              have hd16 : ∀ a' y, a' ≠ a → bt (τ2.2.1 16 a') y = bt (τ.2.1 16 a') y := fun a' y hne => by
                rw [e16]
                show bt (if a' = a then _ else τ.2.1 16 a') y = _
                rw [if_neg hne]
              have hd16a : ∀ y, bt (τ2.2.1 16 a) y = (bt (τ.2.1 16 a) y || bt (τ.2.1 15 a &&& (τ.2.1 16 a ^^^ -1)) y) := fun y => by
                rw [e16]
                show bt (if a = a then _ else τ.2.1 16 a) y = _
                rw [if_pos rfl, bt_or]
              refine ih2 τ2 1 (hX1.tr (hX2.mono (fun k j h => Or.inl h))) g1 (fun u w a1 a2 a3 a4 => hin _ _ (h2 u w a1 a2 a3 a4)) ?_ (Or.inl ⟨rfl, ?_⟩)
              · intro a' y ha' hy hb
                have old : bt (τ.2.1 16 a') y = true → bt (τ2.2.1 15 a') y = true ∧ ¬ mts K W tb a' y ∧ ∀ x' y', go2 K W tb a' y x' y' → bt (τ2.2.1 15 x') y' = true := fun q => by
                  obtain ⟨b1, b2, b3⟩ := h3 a' y ha' hy q
                  exact ⟨hin _ _ b1, b2, fun x' y' g => hin _ _ (b3 x' y' g)⟩
                by_cases ea : a' = a
                · subst ea
                  rw [hd16a, Bool.or_eq_true] at hb
                  rcases hb with hb | hb
                  · exact old hb
                  · have hb2 := ((hfr y hy).mp hb).1
                    have hl := Mt_lt hR (h1 a' y ha' hy hb2)
                    have g4 := g3 y hl.2 hb
                    exact ⟨hin _ _ hb2, g4.1, g4.2⟩
                · rw [hd16 a' y ea] at hb
                  exact old hb
              · obtain ⟨y0, hy0, hb0⟩ := bt_ne0.mp h0
                have hlt : cnD9 τ < cnD9 τ2 := by
                  refine cq_lt 4096 (fun i hi hb => ?_) ⟨64 * a + y0, by omega, ?_, ?_⟩
                  · by_cases ea : i / 64 = a
                    · have hb : bt (τ.2.1 16 (i / 64)) (i % 64) = true := hb
                      show bt (τ2.2.1 16 (i / 64)) (i % 64) = true
                      rw [ea] at hb ⊢
                      rw [hd16a, hb]; rfl
                    · show bt (τ2.2.1 16 (i / 64)) (i % 64) = true
                      rw [hd16 _ _ ea]; exact hb
                  · show bt (τ.2.1 16 ((64 * a + y0) / 64)) ((64 * a + y0) % 64) = false
                    rw [show (64 * a + y0) / 64 = a by omega, show (64 * a + y0) % 64 = y0 by omega]
                    exact ((hfr y0 hy0).mp hb0).2
                  · show bt (τ2.2.1 16 ((64 * a + y0) / 64)) ((64 * a + y0) % 64) = true
                    rw [show (64 * a + y0) / 64 = a by omega, show (64 * a + y0) % 64 = y0 by omega, hd16a, hb0, Bool.or_true]
                rcases h4 with ⟨_, h4⟩ | ⟨_, h4, _⟩ <;> omega
        exact L59 0 (Nat.zero_le _) τ 0 hX h1 h2 h3 (Or.inr ⟨rfl, h4, fun a' y h => absurd h (Nat.not_lt_zero a')⟩)
      · subst e
        refine T_P_partAndMeet_44 ⟨fun _ => T_P_partAndMeet_133 (no τ hX h2 h3 h4), fun _ => br_t rfl (T_P_partAndMeet_133 (no τ hX h2 h3 h4))⟩
  have L18 : ∀ x, x ≤ K ^ (W - 1) → ∀ τ, sX (fun k _ => k = 15 ∨ k = 16) σ τ → sn τ K W tb → (∀ u w, u < w → w < K ^ W → u / K = w / K → tb u = tb w → u / K < x → bt (τ.2.1 15 (u % K ^ (W - 1))) (w % K ^ (W - 1)) = true) → (∀ a y, a < 64 → bt (τ.2.1 16 a) y = false) → G_P_partAndMeet_18 l v (n + 2) post τ (nI x) := by
    refine dn ?_ ?_
    · intro τ hX h1 h2 h3
      refine T_P_partAndMeet_18 (br_t (by rw [(hX 4 9 (by omega)).1, hC.2.2.2.1]; exact nI_le (Nat.le_refl _) (by omega)) ?_)
      exact L44 0 (Nat.zero_le _) τ 1 hX h1 (fun u w a1 a2 a3 a4 => h2 u w a1 a2 a3 a4 (by rw [a3]; exact div_lt' hR a2)) (fun a y ha hy hb => by rw [h3 a y ha] at hb; cases hb) (Or.inl ⟨rfl, Nat.zero_le _⟩)
    · intro x hx ih τ hX h1 h2 h3
      refine T_P_partAndMeet_18 (br_f (by rw [(hX 4 9 (by omega)).1, hC.2.2.2.1]; exact nI_ge hx (by omega)) ?_)
      refine k_partAt hR (hC.kept hX (fun _ => by omega) (fun _ => by omega)) hx h1 (fun τ2 hX2 g1 g2 g3 => ?_)
      rw [nI_1]
      refine ih τ2 (hX.tr (hX2.mono (fun k j h => Or.inl h))) g1 (fun u w a1 a2 a3 a4 a5 => ?_) (fun a y ha => by rw [(hX2 16 a (by omega)).2.1]; exact h3 a y ha)
      rcases Nat.lt_or_ge (u / K) x with q | q
      · exact g2 _ _ (h2 u w a1 a2 a3 a4 q)
      · exact g3 u w a1 a2 (by omega) (by omega) a4
  refine E_P_partAndMeet (T_P_partAndMeet_0 (k_fillJ ⟨by decide, rfl⟩ (by decide) (k_fillJ ⟨by decide, rfl⟩ (by decide) ?_)))
  refine L18 0 (Nat.zero_le _) _ ((sX.rf.B (fun _ => Or.inl rfl)).B (fun _ => Or.inr rfl)) (fun a y ha hy hb => ?_) (fun u w _ _ _ _ h => absurd h (Nat.not_lt_zero _)) (fun a y ha => ?_)
  · rw [pB_k (by decide), pB_row] at hb
    have hb : bt (if a < 64 then (0 : Int64) else _) y = true := hb
    rw [if_pos ha, bt_0] at hb
    cases hb
  · rw [pB_row]
    show bt (if a < 64 then (0 : Int64) else _) y = false
    rw [if_pos ha, bt_0]
end K14
