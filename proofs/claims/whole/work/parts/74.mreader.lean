/-! The reader of the reference: its frames are the machine's. -/
theorem lv_4 {c : Nat} (h : lv c = 4) : c = 42 := by
  unfold lv at h
  repeat' split at h
  all_goals first | omega | assumption
theorem lv_3 {c : Nat} (h : lv c = 3) : c = 43 ∨ c = 45 := by
  unfold lv at h
  repeat' split at h
  all_goals first | omega | assumption
theorem lv_2 {c : Nat} (h : lv c = 2) : c = 61 ∨ c = 60 := by
  unfold lv at h
  repeat' split at h
  all_goals first | omega | assumption
theorem lv_1 {c : Nat} (h : lv c = 1) : c = 38 := by
  unfold lv at h
  repeat' split at h
  all_goals first | omega | assumption
theorem lv_0 {c : Nat} (h : lv c = 0) : c = 124 := by
  unfold lv at h
  repeat' split at h
  all_goals first | omega | assumption
def ac (σ : gs_S) (pv pf l : Nat) (o : Option (Vl × Nat)) (code : Nat → Int32) (m : Nat) : Prop := (o = none → σ.1 pf l = 0) ∧ ∀ a c, o = some (a, c) → σ.1 pv l = nI (a m) ∧ σ.1 pf l = code c
def fOK (K : Nat) (f : Fm) : Prop := (∀ L a c, f.2.1 L = some (a, c) → lv c = L ∧ ∀ n, a n < K) ∧ (∀ n, f.1.2.1 n < K) ∧ (∀ n, f.1.2.2 n < K) ∧ f.1.1 ≤ 3
def mH (σ : gs_S) (i l : Nat) (f : Fm) (m : Nat) : Prop := σ.1 5 l = nI f.1.1 ∧ (f.1.1 ≠ 0 → σ.1 6 l = nI (f.1.2.1 m)) ∧ (f.1.1 = 3 → σ.1 7 l = nI (f.1.2.2 m)) ∧ ∃ c, c ≤ i ∧ σ.1 8 l = nI c ∧ (c % 2 = 1 ↔ f.2.2.1 = true)
def mU (σ : gs_S) (l : Nat) (f : Fm) (m : Nat) : Prop := ac σ 11 12 l (f.2.1 3) (fun c => if c = 43 then 1 else 2) m ∧ ac σ 13 14 l (f.2.1 2) (fun c => if c = 61 then 1 else 2) m ∧ ac σ 15 16 l (f.2.1 1) (fun _ => 1) m ∧ ac σ 17 18 l (f.2.1 0) (fun _ => 1) m
/-- a frame that waits for a value -/
def mQu (σ : gs_S) (K i l : Nat) (f : Fm) (m : Nat) : Prop := fOK K f ∧ mH σ i l f m ∧ ac σ 9 10 l (f.2.1 4) (fun _ => 1) m ∧ mU σ l f m
/-- a frame that has one -/
def mD (σ : gs_S) (K i l : Nat) (f : Fm) (m : Nat) : Prop := fOK K f ∧ (∀ n, f.2.2.2 n < K) ∧ f.2.2.1 = false ∧ mH σ i l f m ∧ (σ.1 10 l = 1 ∧ σ.1 9 l = nI (vL K f 4 m)) ∧ mU σ l f m
def mS (σ : gs_S) (K i m : Nat) : List Fm → Prop
  | [] => True
  | f :: r => mQu σ K i r.length f m ∧ mS σ K i m r
def bs : List Fm → Prop
  | [] => False
  | f :: r => (r = [] ∧ f.1.1 = 0) ∨ bs r
def sameAt (σ σ' : gs_S) (l : Nat) : Prop := ∀ k, 5 ≤ k → k ≤ 18 → σ'.1 k l = σ.1 k l
theorem ac.kept {σ σ' : gs_S} {pv pf l m : Nat} {o : Option (Vl × Nat)} {code : Nat → Int32} (h : ac σ pv pf l o code m) (h1 : σ'.1 pv l = σ.1 pv l) (h2 : σ'.1 pf l = σ.1 pf l) : ac σ' pv pf l o code m := ⟨fun z => h2.trans (h.1 z), fun a c z => ⟨h1.trans (h.2 a c z).1, h2.trans (h.2 a c z).2⟩⟩
theorem mH.kept {σ σ' : gs_S} {i i' l m : Nat} {f f' : Fm} (h : mH σ i l f m) (hi : i ≤ i') (hf : f'.1 = f.1) (hn : f'.2.2.1 = f.2.2.1) (h5 : σ'.1 5 l = σ.1 5 l) (h6 : σ'.1 6 l = σ.1 6 l) (h7 : σ'.1 7 l = σ.1 7 l) (h8 : σ'.1 8 l = σ.1 8 l) : mH σ' i' l f' m := by
  obtain ⟨a, b, c, d, e1, e2, e3⟩ := h
  unfold mH
  rw [hf, hn, h5, h6, h7, h8]
  exact ⟨a, b, c, d, by omega, e2, e3⟩
theorem mQu.kept {σ σ' : gs_S} {K i i' l m : Nat} {f : Fm} (h : mQu σ K i l f m) (hi : i ≤ i') (hs : sameAt σ σ' l) : mQu σ' K i' l f m := by
  obtain ⟨a, b, c, d1, d2, d3, d4⟩ := h
  exact ⟨a, b.kept hi rfl rfl (hs 5 (by decide) (by decide)) (hs 6 (by decide) (by decide)) (hs 7 (by decide) (by decide)) (hs 8 (by decide) (by decide)), c.kept (hs 9 (by decide) (by decide)) (hs 10 (by decide) (by decide)), d1.kept (hs 11 (by decide) (by decide)) (hs 12 (by decide) (by decide)), d2.kept (hs 13 (by decide) (by decide)) (hs 14 (by decide) (by decide)), d3.kept (hs 15 (by decide) (by decide)) (hs 16 (by decide) (by decide)), d4.kept (hs 17 (by decide) (by decide)) (hs 18 (by decide) (by decide))⟩
theorem mS.kept {σ σ' : gs_S} {K i i' m : Nat} (hi : i ≤ i') : ∀ r : List Fm, mS σ K i m r → (∀ l, l < r.length → sameAt σ σ' l) → mS σ' K i' m r
  | [], _, _ => trivial
  | f :: r, h, hs => ⟨h.1.kept hi (hs r.length (by rw [List.length_cons]; omega)), mS.kept hi r h.2 (fun l hl => hs l (by rw [List.length_cons]; omega))⟩
theorem vU_lt {K : Nat} {f : Fm} (hK : 2 ≤ K) (hf : fOK K f) (hx : ∀ n, f.2.2.2 n < K) : ∀ d n, vU K f d n < K
  | 0, n => hx n
  | d + 1, n => by
    have ih := vU_lt hK hf hx d
    show (match f.2.1 (4 - d) with | none => vU K f d | some (a, c) => fun n => tg K c (a n) (vU K f d n)) n < K
    cases h : f.2.1 (4 - d) with
    | none => exact ih n
    | some ac => exact tg_lt hK ((hf.1 _ ac.1 ac.2 h).2 n) (ih n)
theorem vL_lt {K : Nat} {f : Fm} (hK : 2 ≤ K) (hf : fOK K f) (hx : ∀ n, f.2.2.2 n < K) (L n : Nat) : vL K f L n < K := vU_lt hK hf hx _ n
theorem fOK.oper {K c L : Nat} {f : Fm} (hK : 2 ≤ K) (hf : fOK K f) (hx : ∀ n, f.2.2.2 n < K) (hc : lv c = L) : fOK K (oper K c L f) := by
  refine ⟨fun j a c' h => ?_, hf.2.1, hf.2.2.1, hf.2.2.2⟩
  have h : (if j = L then some (vL K f L, c) else if L < j then none else f.2.1 j) = some (a, c') := h
  by_cases e : j = L
  · rw [if_pos e] at h
    have := Option.some.inj h
    have e1 : vL K f L = a := congrArg Prod.fst this
    have e2 : c = c' := congrArg Prod.snd this
    subst e e1 e2
    exact ⟨hc, fun n => vL_lt hK hf hx _ n⟩
  · rw [if_neg e] at h
    by_cases e2 : L < j
    · rw [if_pos e2] at h; exact absurd h (by simp)
    · rw [if_neg e2] at h; exact hf.1 j a c' h
theorem oper_at {K c L : Nat} {f : Fm} : (oper K c L f).2.1 L = some (vL K f L, c) := if_pos rfl
theorem oper_hi {K c L j : Nat} {f : Fm} (h : L < j) : (oper K c L f).2.1 j = none := by
  show (if j = L then some (vL K f L, c) else if L < j then none else f.2.1 j) = none
  rw [if_neg (by omega), if_pos h]
theorem oper_lo {K c L j : Nat} {f : Fm} (h : j < L) : (oper K c L f).2.1 j = f.2.1 j := by
  show (if j = L then some (vL K f L, c) else if L < j then none else f.2.1 j) = _
  rw [if_neg (by omega), if_neg (by omega)]
theorem ac_none {σ : gs_S} {pv pf l m : Nat} {code : Nat → Int32} {o : Option (Vl × Nat)} (ho : o = none) (h : σ.1 pf l = 0) : ac σ pv pf l o code m := ⟨fun _ => h, fun a c z => by rw [ho] at z; exact absurd z (by simp)⟩
theorem ac_some {σ : gs_S} {pv pf l m : Nat} {code : Nat → Int32} {o : Option (Vl × Nat)} {a : Vl} {c : Nat} (ho : o = some (a, c)) (h1 : σ.1 pv l = nI (a m)) (h2 : σ.1 pf l = code c) : ac σ pv pf l o code m := ⟨fun z => by rw [ho] at z; exact absurd z (by simp), fun a' c' z => by
  rw [ho] at z
  have := Option.some.inj z
  have e1 : a = a' := congrArg Prod.fst this
  have e2 : c = c' := congrArg Prod.snd this
  subst e1 e2
  exact ⟨h1, h2⟩⟩
section K33
variable {l : Launch} {v : gs_V} {n : Nat} {σ : gs_S} {K i m t : Nat} {f : Fm}
theorem k_operand {post : gs_S → Prop} {w : Vl} (hK2 : 2 ≤ K) (hK4 : K ≤ 4) (h13 : σ.1 0 13 = nI t) (h10 : σ.1 0 10 = nI K) (ht : t ≤ 5) (hi : i ≤ 64) (hF : mQu σ K i t f m) (hw : ∀ n, w n < K) (hp : ∀ σ', sX (fun k j => (k = 8 ∨ k = 9 ∨ k = 10) ∧ j = t) σ σ' → mD σ' K i t (opd K w f) m → post σ') : gM l v lyM 33 me_M_operand (n + 1) [.ref (v.2.2 0), .int (nI (w m))] σ (qV v lyM 33 post) := by
  obtain ⟨hf, ⟨e5, e6, e7, c, hc, e8, en⟩, hac, hU⟩ := hF
  have hin : vp_in (nI t) 6 := vp_in_nI (by omega) (by decide)
  have hxl : ∀ n, (opd K w f).2.2.2 n < K := fun n => by
    show (if f.2.2.1 = true then K - 1 - w n else w n) < K
    have := hw n
    split <;> omega
  have main : G_M_operand_27 l v n post σ (nI ((opd K w f).2.2.2 m)) := by
    have hx := hxl m
    generalize hy : (opd K w f).2.2.2 m = y at hx ⊢
    refine T_M_operand_27 ?_
    rw [h13, nI_clamp (by omega), h10]
    refine ⟨hin, hin, ?_⟩
    have last : ∀ z : Nat, z = vL K (opd K w f) 4 m → G_M_operand_78 l v n post (gs_pI σ 8 t 0) (nI z) (nI t) := fun z hz => by
      refine T_M_operand_78 ?_
      rw [pI_k (by decide), h13, nI_clamp (by omega)]
      refine ⟨hin, hin, hp _ (((sX.rf.I (by omega)).I (by omega)).I (by omega)) ⟨⟨hf.1, hf.2.1, hf.2.2.1, hf.2.2.2⟩, hxl, rfl, ?_, ⟨by rw [pI_eq], ?_⟩, ?_⟩⟩
      · refine ⟨?_, fun h => ?_, fun h => ?_, 0, by omega, ?_, by simp [opd]⟩
        · rw [pI_k (by decide), pI_k (by decide), pI_k (by decide)]; exact e5
        · rw [pI_k (by decide), pI_k (by decide), pI_k (by decide)]; exact e6 h
        · rw [pI_k (by decide), pI_k (by decide), pI_k (by decide)]; exact e7 h
        · rw [pI_k (by decide), pI_k (by decide), pI_eq]; rfl
      · rw [pI_k (by decide), pI_eq, hz]
      · obtain ⟨u1, u2, u3, u4⟩ := hU
        refine ⟨u1.kept ?_ ?_, u2.kept ?_ ?_, u3.kept ?_ ?_, u4.kept ?_ ?_⟩ <;> rw [pI_k (by decide), pI_k (by decide), pI_k (by decide)]
    cases hA : f.2.1 4 with
    | none =>
      refine br_t (hac.1 hA) (last y ?_)
      rw [vL_none (by decide) (show (opd K w f).2.1 4 = none from hA), vL_5, hy]
    | some ac =>
      have h2 : σ.1 9 t = nI (ac.1 m) ∧ σ.1 10 t = 1 := hac.2 ac.1 ac.2 hA
      have hc4 := (hf.1 4 ac.1 ac.2 hA)
      have ha := hc4.2 m
      refine br_f (by rw [h2.2]; decide) ⟨hin, nI_ne0 (by omega) (by omega), ?_⟩
      have hab : ac.1 m * y ≤ 3 * 3 := Nat.mul_le_mul (by omega) (by omega)
      rw [h2.1, pk_mul, jR_n (by omega) (by omega) (by omega)]
      refine last _ ?_
      rw [vL_some (by decide) (show (opd K w f).2.1 4 = some (ac.1, ac.2) from hA), vL_5]
      show _ = tg K ac.2 (ac.1 m) ((opd K w f).2.2.2 m)
      rw [hy, lv_4 hc4.1]
      rfl
  refine E_M_operand (T_M_operand_0 ?_)
  rw [h13, nI_clamp (by omega), e8, show jR (nI c) 2 = nI (c % 2) from jR_n (d := 2) (by omega) (by decide) (by decide), show (nI (c % 2) = 1 ↔ c % 2 = 1) from nI_nat (b := 1) (by omega) (by decide), en, h10, show nI K - 1 = nI (K - 1) from pk_sub (a := K) (b := 1) (by omega), show nI (K - 1) - nI (w m) = nI (K - 1 - w m) from pk_sub (by have := hw m; omega)]
  refine ⟨hin, fun h => ?_, fun h => ?_⟩
  · have : (opd K w f).2.2.2 m = w m := if_neg h
    rw [this] at main; exact main
  · have : (opd K w f).2.2.2 m = K - 1 - w m := if_pos h
    rw [this] at main; exact main
theorem k_endProduct {post : gs_S → Prop} (hK2 : 2 ≤ K) (hK4 : K ≤ 4) (h13 : σ.1 0 13 = nI t) (h10 : σ.1 0 10 = nI K) (ht : t ≤ 5) (hD : mD σ K i t f m) (hp : ∀ σ', sX (fun k j => (k = 10 ∨ k = 11) ∧ j = t) σ σ' → σ'.1 11 t = nI (vL K f 3 m) → σ'.1 10 t = 0 → post σ') : gM l v lyM 33 me_M_endProduct (n + 1) [.ref (v.2.2 0)] σ (qV v lyM 33 post) := by
  obtain ⟨hf, hx, hnt, hH, ⟨hp1, hp2⟩, u1, u2, u3, u4⟩ := hD
  have hin : vp_in (nI t) 6 := vp_in_nI (by omega) (by decide)
  have v4 := vL_lt hK2 hf hx 4 m
  have last : ∀ z : Nat, z = vL K f 3 m → G_M_endProduct_74 l v n post σ (nI t) (nI z) (nI t) := fun z hz => by
    refine T_M_endProduct_74 ?_
    rw [nI_clamp (by omega)]
    exact ⟨hin, hin, hp _ ((sX.rf.I (by omega)).I (by omega)) (by rw [pI_k (by decide), pI_eq, hz]) pI_eq⟩
  refine E_M_endProduct (T_M_endProduct_0 ?_)
  rw [h13, nI_clamp (by omega), h10, hp2]
  refine ⟨hin, hin, ?_⟩
  cases hA : f.2.1 3 with
  | none =>
    refine br_f' (u1.1 hA) (last _ ?_)
    rw [vL_none (by decide) hA]
  | some ac =>
    have h2 : σ.1 11 t = nI (ac.1 m) ∧ σ.1 12 t = if ac.2 = 43 then 1 else 2 := u1.2 ac.1 ac.2 hA
    have hc := hf.1 3 ac.1 ac.2 hA
    have ha := hc.2 m
    have hv := vL_some (K := K) (L := 3) (by decide) (show f.2.1 3 = some (ac.1, ac.2) from hA)
    rw [h2.1, h2.2]
    rcases lv_3 hc.1 with e | e
    · rw [e, if_pos rfl]
      refine br_t' (by decide) ⟨hin, br_f' rfl ⟨hin, nI_ne0 (by omega) (by omega), ?_⟩⟩
      rw [nI_add, jR_n (by omega) (by omega) (by omega)]
      refine last _ ?_
      rw [hv, e]; rfl
    · rw [e, if_neg (by decide)]
      refine br_t' (by decide) ⟨hin, br_t' (by decide) ⟨hin, nI_ne0 (by omega) (by omega), ?_⟩⟩
      rw [nI_add, pk_sub (by omega), jR_n (by omega) (by omega) (by omega)]
      refine last _ ?_
      rw [hv, e]; rfl
theorem k_endSum {post : Int32 → gs_S → Prop} (hK2 : 2 ≤ K) (hK4 : K ≤ 4) (h13 : σ.1 0 13 = nI t) (h10 : σ.1 0 10 = nI K) (ht : t ≤ 5) (hD : mD σ K i t f m) (hp : ∀ σ', sX (fun k j => (k = 10 ∨ k = 11 ∨ k = 12) ∧ j = t) σ σ' → σ'.1 10 t = 0 → σ'.1 12 t = 0 → post (nI (vL K f 3 m)) σ') : gM l v lyM 33 me_M_endSum (n + 2) [.ref (v.2.2 0)] σ (qI v lyM 33 post) := by
  have hin : vp_in (nI t) 6 := vp_in_nI (by omega) (by decide)
  refine E_M_endSum (T_M_endSum_0 (k_endProduct hK2 hK4 h13 h10 ht hD (fun σ1 hX a1 a2 => ?_)))
  rw [(hX 0 13 (by omega)).1, h13, nI_clamp (by omega), a1]
  exact ⟨hin, hin, hp _ ((hX.mono (fun k j h => by omega)).I (by omega)) (by rw [pI_k (by decide)]; exact a2) pI_eq⟩
theorem k_endTest {post : gs_S → Prop} (hK2 : 2 ≤ K) (hK4 : K ≤ 4) (h13 : σ.1 0 13 = nI t) (h10 : σ.1 0 10 = nI K) (ht : t ≤ 5) (hD : mD σ K i t f m) (hp : ∀ σ', sX (fun k j => (10 ≤ k ∧ k ≤ 16) ∧ j = t) σ σ' → σ'.1 10 t = 0 → σ'.1 12 t = 0 → σ'.1 14 t = 0 → σ'.1 15 t = nI (vL K f 1 m) → σ'.1 16 t = 1 → post σ') : gM l v lyM 33 me_M_endTest (n + 3) [.ref (v.2.2 0)] σ (qV v lyM 33 post) := by
  have hin : vp_in (nI t) 6 := vp_in_nI (by omega) (by decide)
  refine E_M_endTest (T_M_endTest_0 (k_endSum hK2 hK4 h13 h10 ht hD (fun σ1 hX a10 a12 => ?_)))
  obtain ⟨hf, hx, hnt, hH, hpp, u1, u2, u3, u4⟩ := hD
  have v3 := vL_lt hK2 hf hx 3 m
  have v2 := vL_lt hK2 hf hx 2 m
  rw [h13, nI_clamp (by omega), (hX 14 t (by omega)).1, (hX 13 t (by omega)).1]
  have last : ∀ z : Nat, z = vL K f 1 m → G_M_endTest_108 l v (n + 2) post (gs_pI σ1 14 t 0) (nI t) (nI z) (nI t) := fun z hz => by
    refine T_M_endTest_108 ?_
    rw [nI_clamp (by omega)]
    refine ⟨hin, hin, hp _ ((((hX.mono (fun k j h => by omega)).I (by omega)).I (by omega)).I (by omega)) ?_ ?_ ?_ ?_ pI_eq⟩
    · rw [pI_k (by decide), pI_k (by decide), pI_k (by decide)]; exact a10
    · rw [pI_k (by decide), pI_k (by decide), pI_k (by decide)]; exact a12
    · rw [pI_k (by decide), pI_k (by decide), pI_eq]
    · rw [pI_k (by decide), pI_eq, hz]
  have mid : ∀ z : Nat, z = vL K f 2 m → G_M_endTest_66 l v (n + 2) post σ1 (nI t) (nI z) := fun z hz => by
    refine T_M_endTest_66 ?_
    rw [nI_clamp (by omega), (hX 16 t (by omega)).1, (hX 15 t (by omega)).1]
    refine ⟨hin, hin, ?_⟩
    cases hA : f.2.1 1 with
    | none =>
      refine br_t (u3.1 hA) (T_M_endTest_107 (last z ?_))
      rw [vL_none (by decide) hA, hz]
    | some ac =>
      have h2 : σ.1 15 t = nI (ac.1 m) ∧ σ.1 16 t = 1 := u3.2 ac.1 ac.2 hA
      have hc := hf.1 1 ac.1 ac.2 hA
      have ha := hc.2 m
      have hv := vL_some (K := K) (L := 1) (by decide) (show f.2.1 1 = some (ac.1, ac.2) from hA)
      have hv' : vL K f 1 m = if ac.1 m < z then ac.1 m else z := by rw [hv, lv_1 hc.1, hz]; rfl
      rw [h2.1, h2.2, nI_leI (by omega) (by omega)]
      refine br_f (by decide) ⟨hin, fun q => T_M_endTest_107 (last z ?_), fun q => ⟨hin, last _ ?_⟩⟩
      · rw [hv', if_neg (by omega)]
      · rw [hv', if_pos (by omega)]
  refine ⟨hin, ?_⟩
  cases hA : f.2.1 2 with
  | none =>
    refine br_f' (u2.1 hA) (mid _ ?_)
    rw [vL_none (by decide) hA]
  | some ac =>
    have h2 : σ.1 13 t = nI (ac.1 m) ∧ σ.1 14 t = if ac.2 = 61 then 1 else 2 := u2.2 ac.1 ac.2 hA
    have hc := hf.1 2 ac.1 ac.2 hA
    have ha := hc.2 m
    have hv := vL_some (K := K) (L := 2) (by decide) (show f.2.1 2 = some (ac.1, ac.2) from hA)
    rw [h2.1, h2.2]
    rcases lv_2 hc.1 with e | e
    · rw [e, if_pos rfl]
      have hv' : vL K f 2 m = if ac.1 m = vL K f 3 m then 1 else 0 := by rw [hv, e]; rfl
      refine br_t' (by decide) ⟨hin, br_f' rfl ⟨hin, ?_⟩⟩
      rw [nI_nat (by omega) (by omega)]
      refine ⟨fun q => mid 0 ?_, fun q => mid 1 ?_⟩
      · rw [hv', if_neg q]
      · rw [hv', if_pos q]
    · rw [e, if_neg (by decide)]
      have hv' : vL K f 2 m = if ac.1 m < vL K f 3 m then 1 else 0 := by rw [hv, e]; rfl
      refine br_t' (by decide) ⟨hin, br_t' (by decide) ⟨hin, ?_⟩⟩
      rw [nI_leI (by omega) (by omega)]
      refine ⟨fun q => mid 0 ?_, fun q => mid 1 ?_⟩
      · rw [hv', if_neg (by omega)]
      · rw [hv', if_pos (by omega)]
theorem k_endBoth {post : gs_S → Prop} (hK2 : 2 ≤ K) (hK4 : K ≤ 4) (h13 : σ.1 0 13 = nI t) (h10 : σ.1 0 10 = nI K) (ht : t ≤ 5) (hD : mD σ K i t f m) (hp : ∀ σ', sX (fun k j => (10 ≤ k ∧ k ≤ 18) ∧ j = t) σ σ' → σ'.1 10 t = 0 → σ'.1 12 t = 0 → σ'.1 14 t = 0 → σ'.1 16 t = 0 → σ'.1 17 t = nI (vL K f 0 m) → σ'.1 18 t = 1 → post σ') : gM l v lyM 33 me_M_endBoth (n + 4) [.ref (v.2.2 0)] σ (qV v lyM 33 post) := by
  have hin : vp_in (nI t) 6 := vp_in_nI (by omega) (by decide)
  refine E_M_endBoth (T_M_endBoth_0 (k_endTest hK2 hK4 h13 h10 ht hD (fun σ1 hX a10 a12 a14 a15 a16 => ?_)))
  obtain ⟨hf, hx, hnt, hH, hpp, u1, u2, u3, u4⟩ := hD
  have v1 := vL_lt hK2 hf hx 1 m
  rw [h13, nI_clamp (by omega), (hX 18 t (by omega)).1, (hX 17 t (by omega)).1, a15]
  have last : ∀ z : Nat, z = vL K f 0 m → G_M_endBoth_53 l v (n + 3) post σ1 (nI t) (nI z) (nI t) := fun z hz => by
    refine T_M_endBoth_53 ?_
    rw [nI_clamp (by omega)]
    refine ⟨hin, hin, hin, hp _ ((((hX.mono (fun k j h => by omega)).I (by omega)).I (by omega)).I (by omega)) ?_ ?_ ?_ pI_eq ?_ ?_⟩
    · rw [pI_k (by decide), pI_k (by decide), pI_k (by decide)]; exact a10
    · rw [pI_k (by decide), pI_k (by decide), pI_k (by decide)]; exact a12
    · rw [pI_k (by decide), pI_k (by decide), pI_k (by decide)]; exact a14
    · rw [pI_k (by decide), pI_k (by decide), pI_eq, hz]
    · rw [pI_k (by decide), pI_eq]
  have both : vL K f 1 m = vL K f 0 m → G_M_endBoth_47 l v (n + 3) post σ1 (nI t) (nI t) := fun hz => by
    refine T_M_endBoth_47 ?_
    rw [nI_clamp (by omega), a15]
    exact ⟨hin, last _ hz⟩
  refine ⟨hin, ?_⟩
  cases hA : f.2.1 0 with
  | none =>
    refine br_t (u4.1 hA) (both ?_)
    rw [vL_none (by decide) hA]
  | some ac =>
    have h2 : σ.1 17 t = nI (ac.1 m) ∧ σ.1 18 t = 1 := u4.2 ac.1 ac.2 hA
    have hc := hf.1 0 ac.1 ac.2 hA
    have ha := hc.2 m
    have hv := vL_some (K := K) (L := 0) (by decide) (show f.2.1 0 = some (ac.1, ac.2) from hA)
    have hv' : vL K f 0 m = if vL K f 1 m < ac.1 m then ac.1 m else vL K f 1 m := by rw [hv, lv_0 hc.1]; rfl
    rw [h2.1, h2.2, nI_leI (by omega) (by omega)]
    refine br_f (by decide) ⟨hin, hin, fun q => both ?_, fun q => ⟨hin, last _ ?_⟩⟩
    · rw [hv', if_neg (by omega)]
    · rw [hv', if_pos (by omega)]
theorem k_endEither {post : Int32 → gs_S → Prop} (hK2 : 2 ≤ K) (hK4 : K ≤ 4) (h13 : σ.1 0 13 = nI t) (h10 : σ.1 0 10 = nI K) (ht : t ≤ 5) (hD : mD σ K i t f m) (hp : ∀ σ', sX (fun k j => (10 ≤ k ∧ k ≤ 18) ∧ j = t) σ σ' → σ'.1 10 t = 0 → σ'.1 12 t = 0 → σ'.1 14 t = 0 → σ'.1 16 t = 0 → σ'.1 18 t = 0 → post (nI (vL K f 0 m)) σ') : gM l v lyM 33 me_M_endEither (n + 5) [.ref (v.2.2 0)] σ (qI v lyM 33 post) := by
  have hin : vp_in (nI t) 6 := vp_in_nI (by omega) (by decide)
  refine E_M_endEither (T_M_endEither_0 (k_endBoth hK2 hK4 h13 h10 ht hD (fun σ1 hX a10 a12 a14 a16 a17 a18 => ?_)))
  rw [(hX 0 13 (by omega)).1, h13, nI_clamp (by omega), a17]
  refine ⟨hin, hin, hp _ (hX.I (by omega)) ?_ ?_ ?_ ?_ pI_eq⟩
  · rw [pI_k (by decide)]; exact a10
  · rw [pI_k (by decide)]; exact a12
  · rw [pI_k (by decide)]; exact a14
  · rw [pI_k (by decide)]; exact a16
/-- the frames of second parts go -/
theorem k_popped {post : Int32 → gs_S → Prop} {s0 : gs_S} : ∀ (r : List Fm) (f : Fm) (w : Vl) (τ : gs_S), sX (fun k j => k = 0 ∧ j = 13) s0 τ → τ.1 0 13 = nI r.length → r.length ≤ 5 → fOK K f → s0.1 5 r.length = nI f.1.1 → (f.1.1 ≠ 0 → s0.1 6 r.length = nI (f.1.2.1 m)) → (f.1.1 = 3 → s0.1 7 r.length = nI (f.1.2.2 m)) → mS s0 K i m r → bs (f :: r) → (∀ n, w n < K) → K ≤ 4 → (∀ w' kd cd r' σ', endC (f :: r) w = (w', kd, cd, r') → sX (fun k j => k = 0 ∧ j = 13) s0 σ' → σ'.1 0 13 = nI r'.length → r'.length ≤ r.length → s0.1 5 r'.length = nI kd → kd ≤ 3 → kd ≠ 3 → (kd ≠ 0 → s0.1 6 r'.length = nI (cd m)) → (∀ n, cd n < K) → (∀ n, w' n < K) → mS s0 K i m r' → (kd ≠ 0 → bs r') → post (nI (w' m)) σ') → G_M_endChoice_5 l v n post τ (nI (w m)) := by
  intro r
  induction r with
  | nil =>
    intro f w τ hX h13 hl hf e5 e6 e7 hS hb hw hK hpost
    have h0 : f.1.1 = 0 := by
      rcases hb with z | z
      · exact z.2
      · exact z.elim
    refine T_M_endChoice_5 ?_
    rw [h13, nI_clamp (by omega), (hX 5 _ (by omega)).1, e5]
    refine ⟨vp_in_nI (by omega) (by decide), br_t' (by rw [h0]; decide) (hpost w f.1.1 f.1.2.1 [] τ ?_ hX h13 (Nat.le_refl _) e5 hf.2.2.2 (by omega) e6 hf.2.1 hw hS (fun z => absurd h0 z))⟩
    show (if f.1.1 = 3 then _ else (w, f.1.1, f.1.2.1, [])) = _
    rw [if_neg (by omega)]
  | cons g r ih =>
    intro f w τ hX h13 hl hf e5 e6 e7 hS hb hw hK hpost
    have hbr : bs (g :: r) := by
      rcases hb with z | z
      · exact absurd z.1 (by simp)
      · exact z
    rw [List.length_cons] at hl
    have hl2 : (g :: r).length = r.length + 1 := List.length_cons
    have hkd := hf.2.2.2
    refine T_M_endChoice_5 ?_
    rw [h13, nI_clamp (by omega), (hX 5 _ (by omega)).1, (hX 6 _ (by omega)).1, (hX 7 _ (by omega)).1, e5]
    rw [show (nI f.1.1 = 3 ↔ f.1.1 = 3) from nI_nat (b := 3) (by omega) (by decide)]
    refine ⟨vp_in_nI (by omega) (by decide), fun ne => hpost w f.1.1 f.1.2.1 (g :: r) τ ?_ hX h13 (Nat.le_refl _) e5 hf.2.2.2 ne e6 hf.2.1 hw hS (fun _ => hbr), fun eq => ⟨vp_in_nI (by omega) (by decide), ?_⟩⟩
    · show (if f.1.1 = 3 then _ else (w, f.1.1, f.1.2.1, g :: r)) = _
      rw [if_neg ne]
    · have go : ∀ y : Int32, y = nI (if f.1.2.1 m = 0 then w m else f.1.2.2 m) → G_M_endChoice_43 l v n post τ y := fun y hy => by
        refine T_M_endChoice_43 ?_
        rw [hy, h13, hl2, nI_pred]
        refine ih g (fun n => if f.1.2.1 n = 0 then w n else f.1.2.2 n) _ (hX.I ⟨rfl, rfl⟩) pI_eq (by omega) hS.1.1 hS.1.2.1.1 hS.1.2.1.2.1 hS.1.2.1.2.2.1 hS.2 hbr (fun n => ?_) hK (fun w' kd cd r' σ' he b1 b2 b3 => hpost w' kd cd r' σ' ?_ b1 b2 (by omega))
        · have g1 := hw n
          have g2 := hf.2.2.1 n
          show (if f.1.2.1 n = 0 then w n else f.1.2.2 n) < K
          split <;> assumption
        · rw [← he]
          show (if f.1.1 = 3 then endC (g :: r) (fun n => if f.1.2.1 n = 0 then w n else f.1.2.2 n) else _) = _
          rw [if_pos eq]
      rw [e6 (by omega), show (nI (f.1.2.1 m) = 0 ↔ f.1.2.1 m = 0) from nI_nat (b := 0) (by have := hf.2.1 m; omega) (by decide)]
      refine ⟨fun h => go _ (by rw [if_pos h]), fun h => ⟨vp_in_nI (by omega) (by decide), go _ (by rw [if_neg h, e7 eq])⟩⟩
end K33
