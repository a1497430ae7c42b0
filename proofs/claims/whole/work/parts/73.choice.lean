/-! Levels, choices, the value of an expression in the class. -/
theorem lv_5 (c : Nat) : lv c ≤ 5 := by
  unfold lv
  repeat' split
  all_goals decide
def jOK (l : Launch) (v : gs_V) (K W : Nat) (tx : Nat → Nat) (sz m d o L : Nat) : Prop := ∀ (post : Int32 → gs_S → Prop) (σ : gs_S) (p : Nat) (f : Fm) (r : List Fm) (Res : Option Nat × Vl), tC σ K W tx sz m → σ.1 1 6 = nI p → σ.1 1 7 = nI o → σ.1 1 8 = 0 → p ≤ sz → r.length = o → (∀ j, L ≤ j → f.2.1 j = none) → f.2.2.1 = false → RN K W tx sz true (f :: r) p = Res → (∀ x τ, fP σ τ → oJ K W tx sz m p L f r Res x τ → post x τ) → gM l v lyC 42 me_T_joined d [.ref (v.2.2 1), .int (nI L)] σ (qI v lyC 42 post)
section K32
variable {l : Launch} {v : gs_V} {n : Nat} {σ : gs_S} {K W sz m : Nat} {tx : Nat → Nat}
theorem k_joined {o : Nat} (hk : tOk K W tx sz) (hch : o < 4 → chOK l v K W tx sz m (n + 1) (o + 1)) (ho : o ≤ 4) : ∀ d, d ≤ 5 → jOK l v K W tx sz m (n + d + 5) o (5 - d) := by
  have h64 := hk.2.2.2.2.1
  have hK2 := hk.1
  have hK4 := hk.2.1
  intro d
  induction d with
  | zero =>
    intro _ post σ p f r Res hC h6 h7 h8 hp hr hA hnt hRes hpost
    exact E_T_joined (T_T_joined_0 (br_f (by decide) (k_part hk hch hC h6 h7 h8 hp ho hr hnt hRes (fun x τ hX hO => hpost x τ hX hO))))
  | succ d ih =>
    intro hd post σ p f r Res hC h6 h7 h8 hp hr hA hnt hRes hpost
    have ih := ih (by omega)
    rw [show n + (d + 1) + 5 = (n + d + 5) + 1 by omega]
    obtain ⟨L, hL, hL5⟩ : ∃ L, 5 - (d + 1) = L ∧ 5 - d = L + 1 := ⟨5 - (d + 1), rfl, by omega⟩
    rw [hL] at hA hpost ⊢
    rw [hL5] at ih
    have hL4 : L < 5 := by omega
    -- once there is a fault nothing more is read
    have stopF : ∀ x3 i τ y, fP σ τ → flt sz Res τ → G_T_joined_33 l v (n + d + 5) post τ (nI L) y x3 i := fun x3 i τ y hX hF => by
      have done : G_T_joined_87 l v (n + d + 5) post τ y := T_T_joined_87 (hpost _ _ hX (Or.inl hF))
      refine T_T_joined_33 ⟨fun _ => done, fun _ => ?_⟩
      refine k_here_f (n := n + d + 4) (by rw [hF.1]; decide) (k_levelOf (n := n + d + 4) (c := 0) (by decide) (br_t' ?_ done))
      rw [lvI_eq hL4]
      show ¬ 5 = L
      omega
    have loop : ∀ S, (L = 2 → S = 1) → (L ≠ 2 → S = 64) → ∀ k i q τ f', i + k = S → p + i ≤ q → q ≤ sz → fP σ τ → τ.1 1 8 = 0 → τ.1 1 6 = nI q → τ.1 1 7 = nI o → f'.1 = f.1 → (∀ j, j < L → f'.2.1 j = f.2.1 j) → f'.2.2.1 = false → (∀ n, vL K f' L n < K) → RN K W tx sz false (f' :: r) q = Res → stopd tx sz (L + 1) f' q → (L = 2 → (i = 0 → f'.2.1 2 = none) ∧ (1 ≤ i → f'.2.1 2 ≠ none)) → G_T_joined_33 l v (n + d + 5) post τ (nI L) (nI (vL K f' L m)) (nI S) (nI i) := by
      intro S hS1 hS2 k
      have hS : S ≤ 64 := by
        by_cases e : L = 2
        · rw [hS1 e]; decide
        · rw [hS2 e]; decide
      induction k with
      | zero =>
        intro i q τ f' hi hq1 hq2 hX e8 e6 e7 b1 b2 b3 b4 b5 b6 b7
        refine T_T_joined_33 (br_t (nI_le (by omega) (by omega)) (T_T_joined_87 (hpost _ _ hX (Or.inr ⟨q, f', by omega, hq2, e8, e6, by rw [hr]; exact e7, b1, b2, b3, rfl, b4, b5, fun hq => ?_⟩))))
        by_cases e : L = 2
        · have hS1 := hS1 e
          subst e
          rcases b6 hq with z | z | z
          · rcases (show lv (tx q) < 2 ∨ lv (tx q) = 2 by omega) with z2 | z2
            · exact Or.inl z2
            · exact Or.inr (Or.inr ⟨z2, (b7 rfl).2 (by omega)⟩)
          · exact Or.inr (Or.inl z)
          · exact Or.inr (Or.inr z)
        · have := hS2 e
          omega
      | succ k ihk =>
        intro i q τ f' hi hq1 hq2 hX e8 e6 e7 b1 b2 b3 b4 b5 b6 b7
        have hCτ := hC.kept hX
        have exit : stopd tx sz L f' q → G_T_joined_87 l v (n + d + 5) post τ (nI (vL K f' L m)) := fun hs => T_T_joined_87 (hpost _ _ hX (Or.inr ⟨q, f', by omega, hq2, e8, e6, by rw [hr]; exact e7, b1, b2, b3, rfl, b4, b5, hs⟩))
        refine T_T_joined_33 (br_f (nI_ge (by omega) (by omega)) ?_)
        rcases Nat.lt_or_ge q sz with z | z
        · have hc := hk.2.2.2.2.2 q z
          refine k_here_c (n := n + d + 4) hk hCτ e8 e6 z (k_levelOf (n := n + d + 4) (by omega) ?_)
          rw [lvI_eq hL4]
          refine ⟨fun ne => exit (fun hq => ?_), fun eq => k_here_c (n := n + d + 4) hk hCτ e8 e6 z ?_⟩
          · rcases b6 hq with z | z | z
            · exact Or.inl (by omega)
            · exact Or.inr (Or.inl z)
            · exact Or.inr (Or.inr z)
          · have st : mst K W (tx q) false (f' :: r) = some (true, oper K (tx q) L f' :: r) := by
              show gon K (tx q) f' r = _
              unfold gon
              rw [if_pos (by omega), if_neg, eq]
              intro ⟨z1, z2⟩
              have hL2 : L = 2 := by omega
              have := hS1 hL2
              exact z2 ((b7 hL2).1 (by omega))
            rw [RN_some z st] at b5
            rw [e6, nI_1, nI_1]
            have hX1 : fP σ (gs_pI τ 1 6 (nI (q + 1))) := hX.I (by omega)
            refine ih _ _ (q + 1) (oper K (tx q) L f') r Res (hC.kept hX1) pI_eq (by rw [pI_j (by decide)]; exact e7) (by rw [pI_j (by decide)]; exact e8) (by omega) hr (fun j hj => ?_) rfl b5 (fun x τ2 hX2 hO => ?_)
            · show (if j = L then some (vL K f' L, tx q) else if L < j then none else f'.2.1 j) = none
              rw [if_neg (by omega), if_pos (by omega)]
            · have hXX := hX1.tr hX2
              have h3 : τ2.1 1 3 = nI K := (hC.kept hXX).2.1
              rcases hO with hO | ⟨q', f2, a1, a2, a3, a4, a5, a6, a7, a8, a9, a10, a11, a12⟩
              · exact k_together_any (n := n + d + 3) (by rw [h3]; exact nI_ne0 (by omega) (by omega)) (fun y => stopF _ _ _ _ hXX hO)
              · have hAL : f2.2.1 L = some (vL K f' L, tx q) := by
                  rw [a7 L (by omega)]
                  exact if_pos rfl
                have hv : vL K f2 L = fun n => tg K (tx q) (vL K f' L n) (vL K f2 (L + 1) n) := vL_some hL4 hAL
                rw [a9]
                refine k_together (n := n + d + 3) hK2 hK4 h3 (by omega) (b4 m) (a10 m) ?_
                have e : nI (tg K (tx q) (vL K f' L m) (vL K f2 (L + 1) m)) = nI (vL K f2 L m) := by rw [hv]
                rw [e, nI_1]
                refine ihk (i + 1) q' τ2 f2 (by omega) (by omega) a2 hXX a3 a4 (by rw [← hr]; exact a5) (by rw [a6]; exact b1) (fun j hj => ?_) a8 (fun n => ?_) a11 a12 (fun hL2 => ⟨fun h => by omega, fun _ => ?_⟩)
                · rw [a7 j (by omega)]
                  show (if j = L then some (vL K f' L, tx q) else if L < j then none else f'.2.1 j) = _
                  rw [if_neg (by omega), if_neg (by omega)]; exact b2 j hj
                · rw [hv]; exact tg_lt hK2 (b4 n) (a10 n)
                · rw [← hL2, hAL]; exact Option.some_ne_none _
        · refine k_here_e (n := n + d + 4) hk hCτ e8 e6 hq2 z (k_levelOf (n := n + d + 4) (c := 0) (by decide) (br_t' ?_ (exit (fun hq => by omega))))
          rw [lvI_eq hL4]
          show ¬ 5 = L
          omega
    refine E_T_joined (T_T_joined_0 (br_t (by rw [show (5 : Int32) = nI 5 from rfl]; exact nI_lt hL4 (by decide)) ?_))
    rw [nI_1]
    refine ih _ _ p f r Res hC h6 h7 h8 hp hr (fun j hj => hA j (by omega)) hnt hRes (fun x τ hX hO => ?_)
    rw [show (nI L = 2 ↔ L = 2) from nI_nat (b := 2) (by omega) (by decide)]
    rcases hO with hO | ⟨q, f', a1, a2, a3, a4, a5, a6, a7, a8, a9, a10, a11, a12⟩
    · exact ⟨fun _ => T_T_joined_29 (stopF _ _ _ _ hX hO), fun _ => T_T_joined_29 (stopF _ _ _ _ hX hO)⟩
    · have hAL : f'.2.1 L = none := by rw [a7 L (by omega)]; exact hA L (Nat.le_refl _)
      have hv : vL K f' L = vL K f' (L + 1) := vL_none hL4 hAL
      rw [← hv] at a9 a10
      rw [a9]
      have fin2 := fun S h1 h2 => loop S h1 h2 S 0 q τ f' (by omega) (by omega) a2 hX a3 a4 (by rw [← hr]; exact a5) a6 (fun j hj => a7 j (by omega)) a8 a10 a11 a12 (fun hL2 => ⟨fun _ => by rw [← hL2]; exact hAL, fun h => by omega⟩)
      exact ⟨fun h => T_T_joined_29 (fin2 64 (fun z => absurd z h) (fun _ => rfl)), fun h => T_T_joined_29 (fin2 1 (fun _ => rfl) (fun z => absurd h z))⟩
theorem k_choice1 {o : Nat} (hk : tOk K W tx sz) (hch1 : o < 4 → chOK l v K W tx sz m (n + 1) (o + 1)) (hch2 : o < 4 → chOK l v K W tx sz m (n + 10) (o + 1)) (ho : o ≤ 4) : chOK l v K W tx sz m (n + 11) o := by
  intro post σ p f r Res hC h6 h7 h8 hp hr hA hnt hRes hpost
  have h64 := hk.2.2.2.2.1
  have hK2 := hk.1
  have hK4 := hk.2.1
  refine E_T_choice (T_T_choice_0 (k_joined hk hch1 ho 5 (Nat.le_refl _) _ _ p f r Res hC h6 h7 h8 hp hr (fun j _ => hA j) hnt hRes (fun x τ hX hO => ?_)))
  rcases hO with hO | ⟨q, f', a1, a2, a3, a4, a5, a6, a7, a8, a9, a10, a11, a12⟩
  · exact k_here_f (by rw [hO.1]; decide) (br_f (by decide) (hpost _ _ hX (Or.inl hO)))
  · have hCτ := hC.kept hX
    have a9 : x = nI (vL K f' 0 m) := a9
    have a10 : ∀ n, vL K f' 0 n < K := a10
    have a12 : stopd tx sz 0 f' q := a12
    have plain : (q < sz → tx q ≠ 63) → post x τ := fun h63 => hpost _ _ hX (Or.inr ⟨q, f', r, vL K f' 0, a1, a2, a3, a4, a5, a9, a10, a11, endC_kind a6, a12, h63⟩)
    rcases Nat.lt_or_ge q sz with z | z
    · have hc := hk.2.2.2.2.2 q z
      refine k_here_c hk hCτ a3 a4 z ?_
      rw [show (63 : Int32) = nI 63 from rfl, chq (by omega) (by decide)]
      refine ⟨fun e => ?_, fun e => plain (fun _ => e)⟩
      have step : mst K W (tx q) false (f' :: r) = if r.length < 4 then some (true, frs 2 (vL K f' 0) (fun _ => 0) :: (f'.1, (fun _ => none), false, f'.2.2.2) :: r) else none := by
        show gon K (tx q) f' r = _
        unfold gon
        rw [e, if_neg (by decide), if_pos rfl]
      refine E_T_opens (T_T_opens_0 ?_)
      rw [a5, hr, a4, show (4 : Int32) = nI 4 from rfl, nI_ltI (by omega) (by omega), nI_1, nI_1]
      refine ⟨fun o4 => br_t' (by decide) ?_, fun o4 => br_f' rfl (hpost _ _ (hX.I (by omega)) (Or.inl ⟨pI_eq, q, a2, by rw [pI_j (by decide)]; exact a4, ?_⟩))⟩
      · rw [if_pos (by omega)] at step
        rw [RN_some z step] at a11
        have hX1 : fP σ (gs_pI (gs_pI τ 1 7 (nI (o + 1))) 1 6 (nI (q + 1))) := (hX.I (by omega)).I (by omega)
        refine hch2 o4 _ _ (q + 1) _ ((f'.1, (fun _ => none), false, f'.2.2.2) :: r) Res (hC.kept hX1) pI_eq (by rw [pI_j (by decide), pI_eq]) (by rw [pI_j (by decide), pI_j (by decide)]; exact a3) (by omega) (by rw [List.length_cons, hr]) (fun _ => rfl) rfl a11 (fun x4 τ4 hX4 hO4 => ?_)
        have hXX4 := hX1.tr hX4
        have bad : ∀ τ5, fP σ τ5 → (∃ q2, q2 ≤ sz ∧ τ5.1 1 6 = nI q2 ∧ Res.1 = some q2) → post 0 (gs_pI τ5 1 8 1) := fun τ5 h5 ⟨q2, c1, c2, c3⟩ => hpost _ _ (h5.I (by omega)) (Or.inl ⟨pI_eq, q2, c1, by rw [pI_j (by decide)]; exact c2, c3⟩)
        rcases hO4 with hO4 | ⟨q2, f2, r2, w2, c1, c2, c3, c4, c5, c6, c7, c8, c9, c10, c11⟩
        · exact k_here_f (by rw [hO4.1]; decide) (br_f (by decide) (bad τ4 hXX4 hO4.2))
        · have hC4 := hC.kept hXX4
          have e1 : endC (frs 2 (vL K f' 0) (fun _ => 0) :: (f'.1, (fun _ => none), false, f'.2.2.2) :: r) w2 = (w2, 2, vL K f' 0, (f'.1, (fun _ => none), false, f'.2.2.2) :: r) := rfl
          rw [e1] at c9
          rcases Nat.lt_or_ge q2 sz with z2 | z2
          · have hc2 := hk.2.2.2.2.2 q2 z2
            refine k_here_c hk hC4 c3 c4 z2 ?_
            rw [show (58 : Int32) = nI 58 from rfl, chq (by omega) (by decide)]
            refine ⟨fun e58 => ?_, fun e58 => bad τ4 hXX4 ⟨q2, c2, c4, ?_⟩⟩
            · have st : mst K W (tx q2) false (f2 :: r2) = some (true, frs 3 (vL K f' 0) w2 :: (f'.1, (fun _ => none), false, f'.2.2.2) :: r) := by
                show gon K (tx q2) f2 r2 = _
                unfold gon
                rw [c9, e58, if_neg (by decide), if_neg (by decide), if_pos rfl, if_pos rfl]
              rw [RN_some z2 st] at c8
              rw [c4, nI_1]
              have hX5 : fP σ (gs_pI τ4 1 6 (nI (q2 + 1))) := hXX4.I (by omega)
              refine hch2 o4 _ _ (q2 + 1) _ ((f'.1, (fun _ => none), false, f'.2.2.2) :: r) Res (hC.kept hX5) pI_eq (by rw [pI_j (by decide), c5, List.length_cons, hr]) (by rw [pI_j (by decide)]; exact c3) (by omega) (by rw [List.length_cons, hr]) (fun _ => rfl) rfl c8 (fun x6 τ6 hX6 hO6 => ?_)
              have hXX6 := hX5.tr hX6
              rcases hO6 with hO6 | ⟨q3, f3, r3, w3, d1, d2, d3, d4, d5, d6, d7, d8, d9, d10, d11⟩
              · have : ∀ y, G_T_choice_81 l v (n + 10) post (gs_pI τ6 1 7 ((τ6.1 1 7) - 1)) y := fun y => T_T_choice_81 (hpost _ _ (hXX6.I (by omega)) (Or.inl ⟨by rw [pI_j (by decide)]; exact hO6.1, by
                  obtain ⟨q3, g1, g2, g3⟩ := hO6.2
                  exact ⟨q3, g1, by rw [pI_j (by decide)]; exact g2, g3⟩⟩))
                exact ⟨fun _ => this _, fun _ => this _⟩
              · have out : ∀ y, y = nI (if vL K f' 0 m = 0 then w3 m else w2 m) → G_T_choice_81 l v (n + 10) post (gs_pI τ6 1 7 ((τ6.1 1 7) - 1)) y := fun y hy => by
                  refine T_T_choice_81 (hpost _ _ (hXX6.I (by omega)) (Or.inr ⟨q3, f3, r3, (fun n => if vL K f' 0 n = 0 then w3 n else w2 n), by omega, d2, by rw [pI_j (by decide)]; exact d3, by rw [pI_j (by decide)]; exact d4, ?_, hy, fun n => ?_, d8, ?_, d10, d11⟩))
                  · rw [pI_eq, d5, List.length_cons]; exact nI_pred _
                  · have g1 := c7 n
                    have g2 := d7 n
                    show (if vL K f' 0 n = 0 then w3 n else w2 n) < K
                    split <;> assumption
                  · rw [d9]
                    have : endC (frs 3 (vL K f' 0) w2 :: (f'.1, (fun _ => none), false, f'.2.2.2) :: r) w3 = endC ((f'.1, (fun _ => none), false, f'.2.2.2) :: r) (fun n => if vL K f' 0 n = 0 then w3 n else w2 n) := rfl
                    rw [this]
                    exact endC_kind a6
                rw [a9, show (nI (vL K f' 0 m) = 0 ↔ vL K f' 0 m = 0) from nI_nat (b := 0) (by have := a10 m; omega) (by decide), d6, c6]
                refine ⟨fun h => out _ (by rw [if_pos h]), fun h => out _ (by rw [if_neg h])⟩
            · have st : mst K W (tx q2) false (f2 :: r2) = none := stop_none c10 z2 (c11 z2) (fun z3 => absurd z3 e58) (fun _ => by rw [c9]; exact (by decide : (2 : Nat) ≠ 1))
              rw [RN_none z2 st] at c8
              rw [← c8]
          · refine k_here_e hk hC4 c3 c4 c2 z2 (br_f (by decide) (bad τ4 hXX4 ⟨q2, c2, c4, ?_⟩))
            rw [RN_end z2] at c8
            rw [← c8, fin_some (by rw [c9]; exact Nat.succ_ne_zero _), show q2 = sz by omega]
      · rw [if_neg (by omega)] at step
        rw [RN_none z step] at a11
        rw [← a11]
    · exact k_here_e hk hCτ a3 a4 a2 z (br_f (by decide) (plain (fun q => by omega)))
theorem k_choice (hk : tOk K W tx sz) : ∀ k, k ≤ 4 → ∀ n, chOK l v K W tx sz m (n + 11 + 10 * k) (4 - k) := by
  intro k
  induction k with
  | zero => intro _ n; exact k_choice1 (o := 4) hk (fun h => absurd h (by decide)) (fun h => absurd h (by decide)) (Nat.le_refl _)
  | succ k ih =>
    intro hk4 n
    have e : n + 11 + 10 * (k + 1) = (n + 10 * (k + 1)) + 11 := by omega
    rw [e]
    refine k_choice1 (o := 4 - (k + 1)) hk (fun _ => ?_) (fun _ => ?_) (by omega)
    · have := ih (by omega) n
      rw [show n + 11 + 10 * k = n + 10 * (k + 1) + 1 by omega, show 4 - k = 4 - (k + 1) + 1 by omega] at this
      exact this
    · have := ih (by omega) (n + 9)
      rw [show n + 9 + 11 + 10 * k = n + 10 * (k + 1) + 10 by omega, show 4 - k = 4 - (k + 1) + 1 by omega] at this
      exact this
abbrev frB : Fm := frs 0 (fun _ => 0) (fun _ => 0)
/-- what the machine says of a whole text -/
def rX (K W : Nat) (tx : Nat → Nat) (sz : Nat) : Option Nat × Vl := RN K W tx sz true [frB] 3
abbrev fV (σ σ' : gs_S) : Prop := sX (fun k j => (k = 1 ∧ (j = 6 ∨ j = 7 ∨ j = 8)) ∨ k = 3) σ σ'
theorem k_valueFor {post : Int32 → gs_S → Prop} (hk : tOk K W tx sz) (h3 : 3 ≤ sz) (hm : m < K ^ W) (e2 : σ.1 1 2 = nI sz) (e3 : σ.1 1 3 = nI K) (e4 : σ.1 1 4 = nI W) (et : ∀ j, j < sz → σ.1 2 j = nI (tx j)) (hpost : ∀ x τ, fV σ τ → ((∃ q, q ≤ sz ∧ (rX K W tx sz).1 = some q ∧ τ.1 1 6 = nI q ∧ (τ.1 1 8 = 1 ∨ (τ.1 1 8 = 0 ∧ q < sz))) ∨ ((rX K W tx sz).1 = none ∧ τ.1 1 8 = 0 ∧ τ.1 1 6 = nI sz ∧ x = nI ((rX K W tx sz).2 m) ∧ (rX K W tx sz).2 m < K)) → post x τ) : gM l v lyC 42 me_T_valueFor (n + 52) [.ref (v.2.2 1), .int (nI m)] σ (qI v lyC 42 post) := by
  have h64 := hk.2.2.2.2.1
  have hK2 := hk.1
  have hK4 := hk.2.1
  have hW1 := hk.2.2.1
  have hW4 := hk.2.2.2.1
  have h256 := pw_le hK4 hW4
  have L : ∀ i, i ≤ W → ∀ τ, sX (fun k _ => k = 3) σ τ → (∀ j, i ≤ j → j < W → τ.1 3 j = nI (m / K ^ (W - 1 - j) % K)) → G_T_valueFor_9 l v (n + 51) post τ (nI (m / K ^ (W - i))) (nI i - 1) := by
    intro i
    induction i with
    | zero =>
      intro _ τ hX hl
      refine T_T_valueFor_9 (br_t (by decide) ?_)
      have hXV : fV σ (gs_pI (gs_pI (gs_pI τ 1 6 3) 1 7 0) 1 8 0) := (((hX.mono (fun k j h => Or.inr h)).I (by omega)).I (by omega)).I (by omega)
      have hC : tC (gs_pI (gs_pI (gs_pI τ 1 6 3) 1 7 0) 1 8 0) K W tx sz m := by
        refine ⟨(hXV 1 2 (by omega)).1.trans e2, (hXV 1 3 (by omega)).1.trans e3, (hXV 1 4 (by omega)).1.trans e4, fun j hj => (hXV 2 j (by omega)).1.trans (et j hj), fun j hj => ?_⟩
        rw [pI_k (by decide), pI_k (by decide), pI_k (by decide)]
        exact hl j (Nat.zero_le _) hj
      have key := k_choice (l := l) (v := v) (m := m) hk 4 (Nat.le_refl _) n
      refine key _ _ 3 frB [] (rX K W tx sz) hC (by rw [pI_j (by decide), pI_j (by decide), pI_eq]; rfl) (by rw [pI_j (by decide), pI_eq]; rfl) pI_eq h3 rfl (fun _ => rfl) rfl rfl (fun x τ' hX' hO => ?_)
      have hXX : fV σ τ' := hXV.tr (hX'.mono (fun k j h => Or.inl h))
      refine hpost x τ' hXX ?_
      rcases hO with ⟨g1, q, g2, g3, g4⟩ | ⟨q, f', r', w, a1, a2, a3, a4, a5, a6, a7, a8, a9, a10, a11⟩
      · exact Or.inl ⟨q, g2, g4, g3, Or.inl g1⟩
      · have e1 : endC [frB] w = (w, 0, (fun _ => 0), []) := rfl
        rw [e1] at a9
        rcases Nat.lt_or_ge q sz with z | z
        · refine Or.inl ⟨q, a2, ?_, a4, Or.inr ⟨a3, z⟩⟩
          have st : mst K W (tx q) false (f' :: r') = none := stop_none a10 z (a11 z) (fun _ => by rw [a9]; exact (by decide : (0 : Nat) ≠ 2)) (fun _ => by rw [a9]; exact (by decide : (0 : Nat) ≠ 1))
          rw [← a8, RN_none z st]
        · have e : rX K W tx sz = (none, w) := by
            rw [← a8, RN_end z]
            show (if (endC (f' :: r') (vL K f' 0)).2.2.2.length = 0 then none else some sz, (endC (f' :: r') (vL K f' 0)).1) = _
            rw [a9]; rfl
          refine Or.inr ⟨by rw [e], a3, by rw [a4, show q = sz by omega], by rw [e]; exact a6, by rw [e]; exact a7 m⟩
    | succ i ih =>
      intro hi τ hX hl
      rw [nI_pred]
      refine T_T_valueFor_9 (br_f (nI_pos (by omega)) ?_)
      have hd : m / K ^ (W - (i + 1)) ≤ m := Nat.div_le_self _ _
      rw [(hX 1 3 (by omega)).1, e3, nI_clamp (by omega), jR_n (by omega) (by omega) (by omega), pk_div (by omega) (by omega) (by omega), Nat.div_div_eq_div_mul, ← Nat.pow_succ, show (W - (i + 1)).succ = W - i by omega, show nI i + (-1) = nI i - 1 from (Int32.sub_eq_add_neg _ _).symm]
      refine ⟨nI_ne0 (by omega) (by omega), vp_in_nI (by omega) (by decide), nI_ne0 (by omega) (by omega), ih (by omega) _ (hX.I rfl) (fun j h1 h2 => ?_)⟩
      by_cases z : j = i
      · subst z
        rw [pI_eq, show W - 1 - j = W - (j + 1) by omega]
      · rw [pI_j z]; exact hl j (by omega) h2
  refine E_T_valueFor (T_T_valueFor_0 ?_)
  rw [e4]
  have := L W (Nat.le_refl _) σ sX.rf (fun j h1 h2 => by omega)
  rw [Nat.sub_self, Nat.pow_zero, Nat.div_one] at this
  exact this
end K32
