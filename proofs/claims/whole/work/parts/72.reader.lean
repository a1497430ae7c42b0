/-! The reader of the class: what it answers is what the machine answers. -/
theorem nar_ch : ∀ c, c < 128 → narrow .char (.int (nI c)) = .int (nI c) := fun c h => by
  have : ∀ c, c < 128 → (UInt32.toInt32 ((nI c).toUInt32 % 65536)) = nI c := by decide +kernel
  exact congrArg Value.int (this c h)
def tC (σ : gs_S) (K W : Nat) (tx : Nat → Nat) (sz m : Nat) : Prop := σ.1 1 2 = nI sz ∧ σ.1 1 3 = nI K ∧ σ.1 1 4 = nI W ∧ (∀ j, j < sz → σ.1 2 j = nI (tx j)) ∧ ∀ i, i < W → σ.1 3 i = nI (m / K ^ (W - 1 - i) % K)
abbrev fP (σ σ' : gs_S) : Prop := sX (fun k j => k = 1 ∧ (j = 6 ∨ j = 7 ∨ j = 8)) σ σ'
def tOk (K W : Nat) (tx : Nat → Nat) (sz : Nat) : Prop := 2 ≤ K ∧ K ≤ 4 ∧ 1 ≤ W ∧ W ≤ 4 ∧ sz ≤ 64 ∧ ∀ j, j < sz → 32 ≤ tx j ∧ tx j ≤ 126
theorem tC.kept {σ σ' : gs_S} {K W sz m : Nat} {tx : Nat → Nat} (h : tC σ K W tx sz m) (hX : fP σ σ') : tC σ' K W tx sz m := by
  obtain ⟨a, b, c, d, e⟩ := h
  exact ⟨(hX 1 2 (by omega)).1.trans a, (hX 1 3 (by omega)).1.trans b, (hX 1 4 (by omega)).1.trans c, fun j hj => (hX 2 j (by omega)).1.trans (d j hj), fun i hi => (hX 3 i (by omega)).1.trans (e i hi)⟩
/-- a fault, and where -/
def flt (sz : Nat) (Res : Option Nat × Vl) (τ : gs_S) : Prop := τ.1 1 8 = 1 ∧ ∃ q, q ≤ sz ∧ τ.1 1 6 = nI q ∧ Res.1 = some q
def oJ (K W : Nat) (tx : Nat → Nat) (sz m p L : Nat) (f : Fm) (r : List Fm) (Res : Option Nat × Vl) (x : Int32) (τ : gs_S) : Prop := flt sz Res τ ∨ ∃ q f', p ≤ q ∧ q ≤ sz ∧ τ.1 1 8 = 0 ∧ τ.1 1 6 = nI q ∧ τ.1 1 7 = nI r.length ∧ f'.1 = f.1 ∧ (∀ j, j < L → f'.2.1 j = f.2.1 j) ∧ f'.2.2.1 = false ∧ x = nI (vL K f' L m) ∧ (∀ n, vL K f' L n < K) ∧ RN K W tx sz false (f' :: r) q = Res ∧ stopd tx sz L f' q
def oC (K W : Nat) (tx : Nat → Nat) (sz m p : Nat) (f : Fm) (r : List Fm) (Res : Option Nat × Vl) (x : Int32) (τ : gs_S) : Prop := flt sz Res τ ∨ ∃ q f' r', ∃ w : Vl, p ≤ q ∧ q ≤ sz ∧ τ.1 1 8 = 0 ∧ τ.1 1 6 = nI q ∧ τ.1 1 7 = nI r.length ∧ x = nI (w m) ∧ (∀ n, w n < K) ∧ RN K W tx sz false (f' :: r') q = Res ∧ endC (f' :: r') (vL K f' 0) = endC (f :: r) w ∧ stopd tx sz 0 f' q ∧ (q < sz → tx q ≠ 63)
section K31
variable {l : Launch} {v : gs_V} {n : Nat} {σ : gs_S} {K W sz m : Nat} {tx : Nat → Nat}
theorem k_here_f {post : Int32 → gs_S → Prop} (h : ¬ σ.1 1 8 = 0) (hp : post 0 σ) : gM l v lyC 42 me_T_here (n + 1) [.ref (v.2.2 1)] σ (qI v lyC 42 post) :=
  E_T_here (T_T_here_0 (br_t' h (T_T_here_18 (T_T_here_31 ⟨rfl, hp⟩))))
theorem k_here_e {post : Int32 → gs_S → Prop} {p : Nat} (hk : tOk K W tx sz) (hC : tC σ K W tx sz m) (h : σ.1 1 8 = 0) (h6 : σ.1 1 6 = nI p) (hp64 : p ≤ sz) (hq : sz ≤ p) (hp : post 0 σ) : gM l v lyC 42 me_T_here (n + 1) [.ref (v.2.2 1)] σ (qI v lyC 42 post) := by
  have h64 := hk.2.2.2.2.1
  refine E_T_here (T_T_here_0 (br_f' h (br_f ?_ (T_T_here_18 (T_T_here_31 ⟨rfl, hp⟩)))))
  rw [h6, hC.1, Int32.not_lt]
  exact nI_le hq (by omega)
theorem k_here_c {post : Int32 → gs_S → Prop} {p : Nat} (hk : tOk K W tx sz) (hC : tC σ K W tx sz m) (h : σ.1 1 8 = 0) (h6 : σ.1 1 6 = nI p) (hq : p < sz) (hp : post (nI (tx p)) σ) : gM l v lyC 42 me_T_here (n + 1) [.ref (v.2.2 1)] σ (qI v lyC 42 post) := by
  have h64 := hk.2.2.2.2.1
  have hc := hk.2.2.2.2.2 p hq
  refine E_T_here (T_T_here_0 (br_f' h (br_t ?_ ?_)))
  · rw [h6, hC.1]; exact nI_lt hq (by omega)
  · rw [h6, nI_clamp (by omega), hC.2.2.2.1 p hq]
    exact ⟨vp_in_nI (by omega) (by decide), T_T_here_31 ⟨nar_ch _ (by omega), hp⟩⟩
theorem chq {c d : Nat} (hc : c < 128) (hd : d < 128) : nI c = nI d ↔ c = d := nI_nat (by omega) (by omega)
def lvI (c : Nat) : Int32 := if lv c < 5 then nI (lv c) else -1
theorem k_levelOf {post : Int32 → gs_S → Prop} {c : Nat} (hc : c < 128) (hp : post (lvI c) σ) : gM l v lyC 42 me_T_levelOf (n + 1) [.int (nI c)] σ (qI v lyC 42 post) := by
  refine E_T_levelOf (T_T_levelOf_0 ⟨fun h => ?_, fun h => ?_, fun h => T_T_levelOf_74 ?_, fun h => T_T_levelOf_74 ?_, fun h => T_T_levelOf_72 ?_, fun h => T_T_levelOf_72 ?_, fun h => ?_, fun a b c' d e f g => ?_⟩)
  · have := (chq (d := 38) hc (by decide)).mp h; subst this; exact hp
  · have := (chq (d := 42) hc (by decide)).mp h; subst this; exact hp
  · have := (chq (d := 43) hc (by decide)).mp h; subst this; exact hp
  · have := (chq (d := 45) hc (by decide)).mp h; subst this; exact hp
  · have := (chq (d := 60) hc (by decide)).mp h; subst this; exact hp
  · have := (chq (d := 61) hc (by decide)).mp h; subst this; exact hp
  · have := (chq (d := 124) hc (by decide)).mp h; subst this; exact hp
  · have a := fun z => a ((chq (d := 38) hc (by decide)).mpr z)
    have b := fun z => b ((chq (d := 42) hc (by decide)).mpr z)
    have c' := fun z => c' ((chq (d := 43) hc (by decide)).mpr z)
    have d := fun z => d ((chq (d := 45) hc (by decide)).mpr z)
    have e := fun z => e ((chq (d := 60) hc (by decide)).mpr z)
    have f := fun z => f ((chq (d := 61) hc (by decide)).mpr z)
    have g := fun z => g ((chq (d := 124) hc (by decide)).mpr z)
    have h5 : lv c = 5 := by
      unfold lv
      rw [if_neg g, if_neg a, if_neg (fun z => z.elim f e), if_neg (fun z => z.elim c' d), if_neg b]
    have : lvI c = -1 := by
      unfold lvI
      rw [h5]
      rfl
    rw [← this]; exact hp
theorem lvI_eq {c L : Nat} (hL : L < 5) : lvI c = nI L ↔ lv c = L := by
  have h5 : lv c ≤ 5 := by
    unfold lv
    repeat' split
    all_goals decide
  unfold lvI
  by_cases h : lv c < 5
  · rw [if_pos h]; exact nI_nat (by omega) (by omega)
  · rw [if_neg h]
    refine ⟨fun z => ?_, fun z => by omega⟩
    have : L = 0 ∨ L = 1 ∨ L = 2 ∨ L = 3 ∨ L = 4 := by omega
    rcases this with e | e | e | e | e <;> subst e <;> exact absurd z (by decide)
theorem k_together_any {post : Int32 → gs_S → Prop} {x c y : Int32} (h3 : ¬ σ.1 1 3 = 0) (hp : ∀ z, post z σ) : gM l v lyC 42 me_T_together (n + 2) [.ref (v.2.2 1), .int x, .int c, .int y] σ (qI v lyC 42 post) :=
  E_T_together (T_T_together_0 ⟨fun _ => E_J_min (T_J_min_0 ⟨fun _ => T_J_min_10 (hp _), fun _ => T_J_min_10 (hp _)⟩), fun _ => ⟨h3, hp _⟩, fun _ => ⟨h3, hp _⟩, fun _ => ⟨fun _ => T_T_together_93 (hp _), fun _ => T_T_together_93 (hp _)⟩, fun _ => ⟨fun _ => T_T_together_82 (hp _), fun _ => T_T_together_82 (hp _)⟩, fun _ => E_J_max (T_J_max_0 ⟨fun _ => T_J_max_10 (hp _), fun _ => T_J_max_10 (hp _)⟩), fun _ _ _ _ _ _ => ⟨h3, hp _⟩⟩)
theorem k_together {post : Int32 → gs_S → Prop} {a b c : Nat} (hK2 : 2 ≤ K) (hK : K ≤ 4) (h3 : σ.1 1 3 = nI K) (hc : c < 128) (ha : a < K) (hb : b < K) (hp : post (nI (tg K c a b)) σ) : gM l v lyC 42 me_T_together (n + 2) [.ref (v.2.2 1), .int (nI a), .int (nI c), .int (nI b)] σ (qI v lyC 42 post) := by
  have hne : ¬ nI K = 0 := nI_ne0 (by omega) (by omega)
  refine E_T_together (T_T_together_0 ?_)
  rw [h3]
  refine ⟨fun h => ?_, fun h => ?_, fun h => ?_, fun h => ?_, fun h => ?_, fun h => ?_, fun q1 q2 q3 q4 q5 q6 => ?_⟩
  · have := (chq (d := 38) hc (by decide)).mp h; subst this
    have hp : post (nI (if a < b then a else b)) σ := hp
    refine E_J_min (T_J_min_0 ?_)
    rw [nI_ltI (by omega) (by omega)]
    refine ⟨fun z => T_J_min_10 ?_, fun z => T_J_min_10 ?_⟩
    · rw [if_neg (by omega)] at hp; exact hp
    · by_cases q : a < b
      · rw [if_pos q] at hp; exact hp
      · rw [if_neg q, show b = a by omega] at hp; exact hp
  · have := (chq (d := 43) hc (by decide)).mp h; subst this
    refine ⟨hne, ?_⟩
    rw [nI_add, jR_n (by omega) (by omega) (by omega)]
    exact hp
  · have := (chq (d := 45) hc (by decide)).mp h; subst this
    refine ⟨hne, ?_⟩
    rw [Int32.sub_eq_add_neg, Int32.add_assoc, Int32.add_comm (-nI b), ← Int32.add_assoc, ← Int32.sub_eq_add_neg, nI_add, pk_sub (by omega), jR_n (by omega) (by omega) (by omega)]
    exact hp
  · have := (chq (d := 60) hc (by decide)).mp h; subst this
    have hp : post (nI (if a < b then 1 else 0)) σ := hp
    rw [nI_leI (by omega) (by omega)]
    refine ⟨fun z => T_T_together_93 ?_, fun z => T_T_together_93 ?_⟩
    · rw [if_neg (by omega)] at hp; exact hp
    · rw [if_pos (by omega)] at hp; exact hp
  · have := (chq (d := 61) hc (by decide)).mp h; subst this
    have hp : post (nI (if a = b then 1 else 0)) σ := hp
    rw [nI_nat (by omega) (by omega)]
    refine ⟨fun z => T_T_together_82 ?_, fun z => T_T_together_82 ?_⟩
    · rw [if_neg z] at hp; exact hp
    · rw [if_pos z] at hp; exact hp
  · have := (chq (d := 124) hc (by decide)).mp h; subst this
    have hp : post (nI (if b < a then a else b)) σ := hp
    refine E_J_max (T_J_max_0 ?_)
    rw [nI_ltI (by omega) (by omega)]
    refine ⟨fun z => T_J_max_10 ?_, fun z => T_J_max_10 ?_⟩
    · rw [if_neg (by omega)] at hp; exact hp
    · by_cases q : b < a
      · rw [if_pos q] at hp; exact hp
      · rw [if_neg q, show b = a by omega] at hp; exact hp
  · have q1 := fun z => q1 ((chq (d := 38) hc (by decide)).mpr z)
    have q2 := fun z => q2 ((chq (d := 43) hc (by decide)).mpr z)
    have q3 := fun z => q3 ((chq (d := 45) hc (by decide)).mpr z)
    have q4 := fun z => q4 ((chq (d := 60) hc (by decide)).mpr z)
    have q5 := fun z => q5 ((chq (d := 61) hc (by decide)).mpr z)
    have q6 := fun z => q6 ((chq (d := 124) hc (by decide)).mpr z)
    refine ⟨hne, ?_⟩
    have hab : a * b ≤ 3 * 3 := Nat.mul_le_mul (by omega) (by omega)
    rw [pk_mul, jR_n (by omega) (by omega) (by omega)]
    have : tg K c a b = a * b % K := by
      unfold tg
      rw [if_neg q6, if_neg q1, if_neg q5, if_neg q4, if_neg q2, if_neg q3]
    rw [← this]; exact hp
def chOK (l : Launch) (v : gs_V) (K W : Nat) (tx : Nat → Nat) (sz m d o : Nat) : Prop := ∀ (post : Int32 → gs_S → Prop) (σ : gs_S) (p : Nat) (f : Fm) (r : List Fm) (Res : Option Nat × Vl), tC σ K W tx sz m → σ.1 1 6 = nI p → σ.1 1 7 = nI o → σ.1 1 8 = 0 → p ≤ sz → r.length = o → (∀ j, f.2.1 j = none) → f.2.2.1 = false → RN K W tx sz true (f :: r) p = Res → (∀ x τ, fP σ τ → oC K W tx sz m p f r Res x τ → post x τ) → gM l v lyC 42 me_T_choice d [.ref (v.2.2 1)] σ (qI v lyC 42 post)
/-- a bracket, an expression, its end -/
theorem k_bracket {post : Int32 → gs_S → Prop} {p o : Nat} {f : Fm} {r : List Fm} {Res : Option Nat × Vl} (hk : tOk K W tx sz) (hch : o < 4 → chOK l v K W tx sz m (n + 1) (o + 1)) (hC : tC σ K W tx sz m) (h6 : σ.1 1 6 = nI p) (h7 : σ.1 1 7 = nI o) (h8 : σ.1 1 8 = 0) (hp : p < sz) (ho : o ≤ 4) (hr : r.length = o) (hc : tx p = 40) (hRes : RN K W tx sz true (f :: r) p = Res) (hpost : ∀ x τ, fP σ τ → (flt sz Res τ ∨ ∃ q, ∃ w : Vl, p ≤ q ∧ q ≤ sz ∧ τ.1 1 8 = 0 ∧ τ.1 1 6 = nI q ∧ τ.1 1 7 = nI o ∧ x = nI (w m) ∧ (∀ n, w n < K) ∧ RN K W tx sz false (opd K w f :: r) q = Res) → post x τ) : gM l v lyC 42 me_T_bracket (n + 2) [.ref (v.2.2 1)] σ (qI v lyC 42 post) := by
  have h64 := hk.2.2.2.2.1
  have hW4 := hk.2.2.2.1
  refine E_T_bracket (T_T_bracket_0 (E_T_opens (T_T_opens_0 ?_)))
  rw [h7, h6, show (4 : Int32) = nI 4 from rfl, nI_ltI (by omega) (by omega), nI_1, nI_1]
  have step : mst K W (tx p) true (f :: r) = if r.length < 4 then some (true, frs 1 (fun _ => 0) (fun _ => 0) :: f :: r) else none := by
    show bgn K W (tx p) f r = _
    unfold bgn
    rw [if_neg (by omega), if_neg (by omega), if_pos hc]
  refine ⟨fun q => br_t' (by decide) ?_, fun q => br_f' rfl (hpost _ _ (sX.rf.I (by omega)) (Or.inl ⟨pI_eq, p, by omega, ?_, ?_⟩))⟩
  · rw [if_pos (by omega)] at step
    have hR2 := RN_some hp step
    rw [hRes] at hR2
    have hX0 : fP σ (gs_pI (gs_pI σ 1 7 (nI (o + 1))) 1 6 (nI (p + 1))) := (sX.rf.I (by omega)).I (by omega)
    refine hch q _ _ (p + 1) _ (f :: r) Res (hC.kept hX0) pI_eq (by rw [pI_j (by decide), pI_eq]) (by rw [pI_j (by decide), pI_j (by decide)]; exact h8) (by omega) (by rw [List.length_cons, hr]) (fun _ => rfl) rfl hR2.symm (fun x τ hX hO => ?_)
    have hXτ := hX0.tr hX
    rcases hO with ⟨g1, g2⟩ | ⟨q', f', r', w, a1, a2, a3, a4, a5, a6, a7, a8, a9, a10, a11⟩
    · refine k_here_f (by rw [g1]; decide) (br_f (by decide) (hpost _ _ (hXτ.I (by omega)) (Or.inl ⟨pI_eq, ?_⟩)))
      obtain ⟨q2, b1, b2, b3⟩ := g2
      exact ⟨q2, b1, by rw [pI_j (by decide)]; exact b2, b3⟩
    · have hCτ := hC.kept hXτ
      have e1 : endC (frs 1 (fun _ => 0) (fun _ => 0) :: f :: r) w = (w, 1, (fun _ => 0), f :: r) := rfl
      rw [e1] at a9
      rcases Nat.lt_or_ge q' sz with z | z
      · refine k_here_c hk hCτ a3 a4 z ?_
        have hcc := hk.2.2.2.2.2 q' z
        rw [show (41 : Int32) = nI 41 from rfl, chq (by omega) (by decide)]
        refine ⟨fun e => hpost _ _ ((hXτ.I (by omega)).I (by omega)) (Or.inr ⟨q' + 1, w, by omega, by omega, ?_, ?_, ?_, a6, a7, ?_⟩), fun e => hpost _ _ (hXτ.I (by omega)) (Or.inl ⟨pI_eq, q', by omega, ?_, ?_⟩)⟩
        · rw [pI_j (by decide), pI_j (by decide)]; exact a3
        · rw [pI_j (by decide), pI_eq, a4, nI_1]
        · rw [pI_eq, a5, List.length_cons, hr]; exact nI_pred o
        · have st : mst K W (tx q') false (f' :: r') = some (false, opd K w f :: r) := by
            show gon K (tx q') f' r' = _
            unfold gon
            rw [a9, e, if_neg (by decide), if_neg (by decide), if_neg (by decide), if_pos rfl, if_pos rfl]
          rw [← RN_some z st]; exact a8
        · rw [pI_j (by decide)]; exact a4
        · have st : mst K W (tx q') false (f' :: r') = none := stop_none a10 z (a11 z) (fun _ => by rw [a9]; exact (by decide : (1 : Nat) ≠ 2)) (fun z2 => absurd z2 e)
          rw [RN_none z st] at a8
          rw [← a8]
      · refine k_here_e hk hCτ a3 a4 a2 z (br_f (by decide) (hpost _ _ (hXτ.I (by omega)) (Or.inl ⟨pI_eq, q', by omega, ?_, ?_⟩)))
        · rw [pI_j (by decide)]; exact a4
        · rw [RN_end z] at a8
          rw [← a8, fin_some (by rw [a9]; exact Nat.succ_ne_zero _), show q' = sz by omega]
  · rw [pI_j (by decide)]; exact h6
  · rw [if_neg (by omega)] at step
    rw [RN_none hp step] at hRes
    rw [← hRes]
theorem k_unturned {post : Int32 → gs_S → Prop} {p o : Nat} {f : Fm} {r : List Fm} {Res : Option Nat × Vl} (hk : tOk K W tx sz) (hch : o < 4 → chOK l v K W tx sz m (n + 1) (o + 1)) (hC : tC σ K W tx sz m) (h6 : σ.1 1 6 = nI p) (h7 : σ.1 1 7 = nI o) (h8 : σ.1 1 8 = 0) (hp : p ≤ sz) (ho : o ≤ 4) (hr : r.length = o) (h33 : p < sz → tx p ≠ 33) (hRes : RN K W tx sz true (f :: r) p = Res) (hpost : ∀ x τ, fP σ τ → (flt sz Res τ ∨ ∃ q, ∃ w : Vl, p ≤ q ∧ q ≤ sz ∧ τ.1 1 8 = 0 ∧ τ.1 1 6 = nI q ∧ τ.1 1 7 = nI o ∧ x = nI (w m) ∧ (∀ n, w n < K) ∧ RN K W tx sz false (opd K w f :: r) q = Res) → post x τ) : gM l v lyC 42 me_T_unturned (n + 3) [.ref (v.2.2 1)] σ (qI v lyC 42 post) := by
  have h64 := hk.2.2.2.2.1
  have hK2 := hk.1
  have hK4 := hk.2.1
  have hW4 := hk.2.2.2.1
  refine E_T_unturned (T_T_unturned_0 ?_)
  rcases Nat.lt_or_ge p sz with z | z
  · refine k_here_c hk hC h8 h6 z ?_
    have hc := hk.2.2.2.2.2 p z
    have h33 := h33 z
    rw [show (48 : Int32) = nI 48 from rfl, show (57 : Int32) = nI 57 from rfl, nI_ltI (by omega) (by omega), nI_ltI (by omega) (by omega), hC.2.1, h6, nI_1]
    have low : ¬ (48 ≤ tx p ∧ tx p ≤ 57) → G_T_unturned_37 l v (n + 2) post σ (nI (tx p)) := fun q48 => by
      refine T_T_unturned_37 ?_
      rw [show (97 : Int32) = nI 97 from rfl, nI_ltI (by omega) (by omega), hC.2.2.1, nI_add, nI_leI (by omega) (by omega), h6, nI_1]
      have rest : ¬ (97 ≤ tx p ∧ tx p < 97 + W) → G_T_unturned_74 l v (n + 2) post σ (nI (tx p)) := fun q97 => by
        refine T_T_unturned_74 ?_
        rw [show (40 : Int32) = nI 40 from rfl, chq (by omega) (by decide)]
        refine ⟨fun e => hpost _ _ (sX.rf.I (by omega)) (Or.inl ⟨pI_eq, p, hp, by rw [pI_j (by decide)]; exact h6, ?_⟩), fun e => k_bracket hk hch hC h6 h7 h8 z ho hr e hRes (fun x τ hX hO => hpost x τ hX hO)⟩
        have st : mst K W (tx p) true (f :: r) = none := by
          show bgn K W (tx p) f r = _
          unfold bgn
          rw [if_neg q48, if_neg q97, if_neg e, if_neg h33]
        rw [RN_none z st] at hRes
        rw [← hRes]
      refine ⟨fun q => rest (by omega), fun q => ⟨fun q2 => rest (by omega), fun q2 => ?_⟩⟩
      rw [show nI (tx p) - nI 97 = nI (tx p - 97) from pk_sub (by omega), nI_clamp (by omega), hC.2.2.2.2 _ (by omega)]
      refine ⟨vp_in_nI (by omega) (by decide), hpost _ _ (sX.rf.I (by omega)) (Or.inr ⟨p + 1, (fun n => n / K ^ (W - 1 - (tx p - 97)) % K), by omega, by omega, ?_, pI_eq, ?_, rfl, fun n => Nat.mod_lt _ (by omega), ?_⟩)⟩
      · rw [pI_j (by decide)]; exact h8
      · rw [pI_j (by decide)]; exact h7
      · have st : mst K W (tx p) true (f :: r) = some (false, opd K (fun n => n / K ^ (W - 1 - (tx p - 97)) % K) f :: r) := by
          show bgn K W (tx p) f r = _
          unfold bgn
          rw [if_neg q48, if_pos ⟨by omega, by omega⟩]
        rw [← RN_some z st]; exact hRes
    refine ⟨fun q => low (by omega), fun q => ⟨fun q2 => low (by omega), fun q2 => ⟨nI_ne0 (by omega) (by omega), ?_⟩⟩⟩
    rw [show nI (tx p) - nI 48 = nI (tx p - 48) from pk_sub (by omega), jR_n (by omega) (by omega) (by omega)]
    refine hpost _ _ (sX.rf.I (by omega)) (Or.inr ⟨p + 1, (fun _ => (tx p - 48) % K), by omega, by omega, ?_, pI_eq, ?_, rfl, fun n => Nat.mod_lt _ (by omega), ?_⟩)
    · rw [pI_j (by decide)]; exact h8
    · rw [pI_j (by decide)]; exact h7
    · have st : mst K W (tx p) true (f :: r) = some (false, opd K (fun _ => (tx p - 48) % K) f :: r) := by
        show bgn K W (tx p) f r = _
        unfold bgn
        rw [if_pos ⟨by omega, by omega⟩]
      rw [← RN_some z st]; exact hRes
  · refine k_here_e hk hC h8 h6 hp z (br_t (by decide) (T_T_unturned_37 (br_t (by decide) (T_T_unturned_74 (br_t' (by decide) (hpost _ _ (sX.rf.I (by omega)) (Or.inl ⟨pI_eq, p, hp, by rw [pI_j (by decide)]; exact h6, ?_⟩)))))))
    rw [RN_end z] at hRes
    rw [← hRes, show p = sz by omega]; rfl
/-- turns, then what is turned -/
theorem k_part {post : Int32 → gs_S → Prop} {p o : Nat} {f : Fm} {r : List Fm} {Res : Option Nat × Vl} (hk : tOk K W tx sz) (hch : o < 4 → chOK l v K W tx sz m (n + 1) (o + 1)) (hC : tC σ K W tx sz m) (h6 : σ.1 1 6 = nI p) (h7 : σ.1 1 7 = nI o) (h8 : σ.1 1 8 = 0) (hp : p ≤ sz) (ho : o ≤ 4) (hr : r.length = o) (hnt : f.2.2.1 = false) (hRes : RN K W tx sz true (f :: r) p = Res) (hpost : ∀ x τ, fP σ τ → oJ K W tx sz m p 5 f r Res x τ → post x τ) : gM l v lyC 42 me_T_part (n + 4) [.ref (v.2.2 1)] σ (qI v lyC 42 post) := by
  have h64 := hk.2.2.2.2.1
  have hK2 := hk.1
  have hK4 := hk.2.1
  have after : ∀ q τ (b : Bool), p ≤ q → q ≤ sz → fP σ τ → τ.1 1 6 = nI q → τ.1 1 7 = nI o → τ.1 1 8 = 0 → (q < sz → tx q ≠ 33) → RN K W tx sz true ((f.1, f.2.1, b, f.2.2.2) :: r) q = Res → G_T_part_45 l v (n + 3) post τ (if b = true then 1 else 0) := by
    intro q τ b hq1 hq2 hX e6 e7 e8 h33 hR
    refine T_T_part_45 (k_unturned hk hch (hC.kept hX) e6 e7 e8 hq2 ho hr h33 hR (fun x τ' hX' hO => ?_))
    have hX2 := hX.tr hX'
    have h3 : τ'.1 1 3 = nI K := (hC.kept hX2).2.1
    rcases hO with hO | ⟨q', w, a1, a2, a3, a4, a5, a6, a7, a8⟩
    · exact ⟨fun _ => T_T_part_66 (hpost _ _ hX2 (Or.inl hO)), fun _ => T_T_part_66 (hpost _ _ hX2 (Or.inl hO))⟩
    · have out : ∀ y, y = nI (if b = true then K - 1 - w m else w m) → post y τ' := fun y hy => by
        refine hpost _ _ hX2 (Or.inr ⟨q', opd K w (f.1, f.2.1, b, f.2.2.2), by omega, a2, a3, a4, by rw [hr]; exact a5, rfl, fun _ _ => rfl, rfl, hy, fun n => ?_, a8, fun _ => ?_⟩)
        · show (if b = true then K - 1 - w n else w n) < K
          have := a7 n
          split <;> omega
        · have h5 : lv (tx q') ≤ 5 := by
            unfold lv
            repeat' split
            all_goals decide
          omega
      rw [a6, h3, show nI K - 1 = nI (K - 1) from pk_sub (a := K) (b := 1) (by omega), show nI (K - 1) - nI (w m) = nI (K - 1 - w m) from pk_sub (by have := a7 m; omega)]
      cases b with
      | true => exact br_f (by decide) (T_T_part_66 (out _ rfl))
      | false => exact br_t rfl (T_T_part_66 (out _ rfl))
  have L : ∀ k i τ (b : Bool), i + k = 64 → p + i ≤ sz → fP σ τ → τ.1 1 6 = nI (p + i) → τ.1 1 7 = nI o → τ.1 1 8 = 0 → RN K W tx sz true ((f.1, f.2.1, b, f.2.2.2) :: r) (p + i) = Res → G_T_part_4 l v (n + 3) post τ (if b = true then 1 else 0) (nI i) := by
    intro k
    induction k with
    | zero =>
      intro i τ b hi hq hX e6 e7 e8 hR
      exact T_T_part_4 (br_t (nI_le (a := 64) (b := i) (by omega) (by omega)) (after (p + i) τ b (by omega) hq hX e6 e7 e8 (fun z => by omega) hR))
    | succ k ih =>
      intro i τ b hi hq hX e6 e7 e8 hR
      refine T_T_part_4 (br_f (nI_ge (a := i) (b := 64) (by omega) (by decide)) ?_)
      rcases Nat.lt_or_ge (p + i) sz with z | z
      · refine k_here_c hk (hC.kept hX) e8 e6 z ?_
        have hc := hk.2.2.2.2.2 (p + i) z
        rw [show (33 : Int32) = nI 33 from rfl, chq (by omega) (by decide)]
        refine ⟨fun e => after (p + i) τ b (by omega) hq hX e6 e7 e8 (fun _ => e) hR, fun e => ?_⟩
        have st : mst K W (tx (p + i)) true ((f.1, f.2.1, b, f.2.2.2) :: r) = some (true, (f.1, f.2.1, !b, f.2.2.2) :: r) := by
          show bgn K W (tx (p + i)) _ r = _
          unfold bgn
          rw [if_neg (by omega), if_neg (by omega), if_neg (by omega), if_pos e]
        rw [RN_some z st] at hR
        have nxt : ∀ s0 : Int32, s0 = (if (!b) = true then 1 else 0) → G_T_part_28 l v (n + 3) post τ (nI i) s0 := fun s0 hs => by
          refine T_T_part_28 ?_
          rw [e6, nI_1, nI_1, hs]
          exact ih (i + 1) _ (!b) (by omega) (by omega) (hX.I (by omega)) pI_eq (by rw [pI_j (by decide)]; exact e7) (by rw [pI_j (by decide)]; exact e8) hR
        cases b with
        | true => exact br_t' (by decide) (nxt _ rfl)
        | false => exact br_f' rfl (nxt _ rfl)
      · exact k_here_e hk (hC.kept hX) e8 e6 hq z (br_t' (by decide) (after (p + i) τ b (by omega) hq hX e6 e7 e8 (fun q => by omega) hR))
  refine E_T_part (T_T_part_0 ?_)
  refine L 64 0 σ false rfl (by omega) sX.rf h6 h7 h8 ?_
  rw [← hnt]; exact hRes
end K31
