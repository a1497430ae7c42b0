/-! The search by sets of nodes: its steps, its end. -/
def nS (K W : Nat) (tb : Nat → Nat) (X : Int64) (s : Nat) : Nat → Int64
  | 0 => 0
  | u + 1 => if bt X (u / K) = true ∧ tb u = s then nS K W tb X s u ||| jS 1 (nI (u % K ^ (W - 1))) else nS K W tb X s u
def nX (K W : Nat) (tb : Nat → Nat) (X : Int64) (s : Nat) : Int64 := nS K W tb X s (K ^ W)
def mtb (S : Nat → Int64) (X : Int64) : Nat → Bool
  | 0 => false
  | m + 1 => mtb S X m || decide (S m = X)
theorem mtb_iff {S : Nat → Int64} {X : Int64} : ∀ m, mtb S X m = true ↔ ∃ j, j < m ∧ S j = X
  | 0 => ⟨fun h => (by cases h), fun ⟨j, h, _⟩ => absurd h (Nat.not_lt_zero j)⟩
  | m + 1 => by
    show (mtb S X m || decide (S m = X)) = true ↔ _
    rw [Bool.or_eq_true, decide_eq_true_eq, mtb_iff m]
    constructor
    · rintro (⟨j, h1, h2⟩ | h)
      · exact ⟨j, by omega, h2⟩
      · exact ⟨m, by omega, h⟩
    · rintro ⟨j, h1, h2⟩
      by_cases e : j = m
      · exact Or.inr (by rw [← e]; exact h2)
      · exact Or.inl ⟨j, by omega, h2⟩
def aS (N : Nat) : Int64 := if N = 64 then -1 else jS 1 (nI N) - 1
theorem aS_bit {N : Nat} (hN : N ≤ 64) {y : Nat} (hy : y < 64) : bt (aS N) y = true ↔ y < N := by
  unfold aS
  by_cases h : N = 64
  · rw [if_pos h, bt_m1 y hy, h]; exact ⟨fun _ => hy, fun _ => rfl⟩
  · rw [if_neg h, bt_all N (by omega) y hy, decide_eq_true_eq]
def bq (K W : Nat) (tb : Nat → Nat) : Nat → Nat × (Nat → Int64) × (Nat → Nat) × (Nat → Nat)
  | 0 => (1, fun _ => aS (K ^ (W - 1)), fun _ => 0, fun _ => 0)
  | t + 1 => if mtb (bq K W tb t).2.1 (nX K W tb ((bq K W tb t).2.1 (t / K)) (t % K)) (bq K W tb t).1 = true then bq K W tb t else ((bq K W tb t).1 + 1, (fun j => if j = (bq K W tb t).1 then nX K W tb ((bq K W tb t).2.1 (t / K)) (t % K) else (bq K W tb t).2.1 j), (fun j => if j = (bq K W tb t).1 then t / K else (bq K W tb t).2.2.1 j), (fun j => if j = (bq K W tb t).1 then t % K else (bq K W tb t).2.2.2 j))
section BF
variable {K W : Nat} {tb : Nat → Nat}
theorem nX_bit (hR : okR K W tb) {X : Int64} {s y : Nat} (hy : y < 64) : bt (nX K W tb X s) y = true ↔ ∃ u, u < K ^ W ∧ bt X (u / K) = true ∧ tb u = s ∧ u % K ^ (W - 1) = y := by
  have hN := pw_le1 hR.2.1 hR.2.2.2.1
  have hNp := pw_pos (W := W - 1) hR.1
  have h : ∀ m, bt (nS K W tb X s m) y = true ↔ ∃ u, u < m ∧ bt X (u / K) = true ∧ tb u = s ∧ u % K ^ (W - 1) = y := by
    intro m
    induction m with
    | zero =>
      show bt 0 y = true ↔ _
      rw [bt_0]
      exact ⟨fun h => (by cases h), fun ⟨u, h, _⟩ => absurd h (Nat.not_lt_zero u)⟩
    | succ m ih =>
      show bt (if bt X (m / K) = true ∧ tb m = s then nS K W tb X s m ||| jS 1 (nI (m % K ^ (W - 1))) else nS K W tb X s m) y = true ↔ _
      by_cases q : bt X (m / K) = true ∧ tb m = s
      · have hm : m % K ^ (W - 1) < K ^ (W - 1) := Nat.mod_lt _ hNp
        rw [if_pos q, bt_or, Bool.or_eq_true, ih, bt_one _ (by omega) y hy, decide_eq_true_eq]
        constructor
        · rintro (⟨u, h1, h2⟩ | h)
          · exact ⟨u, by omega, h2⟩
          · exact ⟨m, by omega, q.1, q.2, h.symm⟩
        · rintro ⟨u, h1, h2, h3, h4⟩
          by_cases e : u = m
          · subst e; exact Or.inr h4.symm
          · exact Or.inl ⟨u, by omega, h2, h3, h4⟩
      · rw [if_neg q, ih]
        constructor
        · rintro ⟨u, h1, h2⟩; exact ⟨u, by omega, h2⟩
        · rintro ⟨u, h1, h2, h3, h4⟩
          by_cases e : u = m
          · subst e; exact absurd ⟨h2, h3⟩ q
          · exact ⟨u, by omega, h2, h3, h4⟩
  exact h _
def qM (K W : Nat) (tb : Nat → Nat) (t : Nat) : Nat := (bq K W tb t).1
def qS (K W : Nat) (tb : Nat → Nat) (t : Nat) : Nat → Int64 := (bq K W tb t).2.1
def qF (K W : Nat) (tb : Nat → Nat) (t : Nat) : Nat → Nat := (bq K W tb t).2.2.1
def qB (K W : Nat) (tb : Nat → Nat) (t : Nat) : Nat → Nat := (bq K W tb t).2.2.2
def qX (K W : Nat) (tb : Nat → Nat) (t : Nat) : Int64 := nX K W tb (qS K W tb t (t / K)) (t % K)
theorem q_old {t : Nat} (h : mtb (qS K W tb t) (qX K W tb t) (qM K W tb t) = true) : bq K W tb (t + 1) = bq K W tb t := if_pos h
theorem q_new {t : Nat} (h : ¬ mtb (qS K W tb t) (qX K W tb t) (qM K W tb t) = true) : bq K W tb (t + 1) = (qM K W tb t + 1, (fun j => if j = qM K W tb t then qX K W tb t else qS K W tb t j), (fun j => if j = qM K W tb t then t / K else qF K W tb t j), (fun j => if j = qM K W tb t then t % K else qB K W tb t j)) := if_neg h
theorem q_keep (t : Nat) : qM K W tb t ≤ qM K W tb (t + 1) ∧ ∀ j, j < qM K W tb t → qS K W tb (t + 1) j = qS K W tb t j ∧ qF K W tb (t + 1) j = qF K W tb t j ∧ qB K W tb (t + 1) j = qB K W tb t j := by
  by_cases h : mtb (qS K W tb t) (qX K W tb t) (qM K W tb t) = true
  · have e := q_old h
    unfold qM qS qF qB
    rw [e]
    exact ⟨Nat.le_refl _, fun j _ => ⟨rfl, rfl, rfl⟩⟩
  · have e := q_new h
    refine ⟨?_, fun j hj => ?_⟩
    · show qM K W tb t ≤ (bq K W tb (t + 1)).1
      rw [e]; exact Nat.le_succ _
    · have hne : j ≠ qM K W tb t := by omega
      refine ⟨?_, ?_, ?_⟩
      · show (bq K W tb (t + 1)).2.1 j = _
        rw [e]; exact if_neg hne
      · show (bq K W tb (t + 1)).2.2.1 j = _
        rw [e]; exact if_neg hne
      · show (bq K W tb (t + 1)).2.2.2 j = _
        rw [e]; exact if_neg hne
theorem q_later (t : Nat) : ∀ d, qM K W tb t ≤ qM K W tb (t + d) ∧ ∀ j, j < qM K W tb t → qS K W tb (t + d) j = qS K W tb t j
  | 0 => ⟨Nat.le_refl _, fun _ _ => rfl⟩
  | d + 1 => by
    have h1 := q_later t d
    have h2 := q_keep (K := K) (W := W) (tb := tb) (t + d)
    exact ⟨Nat.le_trans h1.1 h2.1, fun j hj => ((h2.2 j (by omega)).1).trans (h1.2 j hj)⟩
theorem q_in (t : Nat) : ∃ j, j < qM K W tb (t + 1) ∧ qS K W tb (t + 1) j = qX K W tb t := by
  by_cases h : mtb (qS K W tb t) (qX K W tb t) (qM K W tb t) = true
  · obtain ⟨j, h1, h2⟩ := (mtb_iff _).mp h
    have hk := q_keep (K := K) (W := W) (tb := tb) t
    exact ⟨j, by omega, (hk.2 j h1).1.trans h2⟩
  · have e := q_new h
    refine ⟨qM K W tb t, ?_, ?_⟩
    · show _ < (bq K W tb (t + 1)).1
      rw [e]; exact Nat.lt_succ_self _
    · show (bq K W tb (t + 1)).2.1 _ = _
      rw [e]; exact if_pos rfl
def cont (K W : Nat) (tb : Nat → Nat) (t : Nat) : Prop := t / K < qM K W tb t ∧ ¬ qX K W tb t = 0 ∧ qM K W tb (t + 1) < 500
def stp (K W : Nat) (tb : Nat → Nat) (t : Nat) : Prop := (∀ t', t' < t → cont K W tb t') ∧ ¬ cont K W tb t
theorem stp_uniq {t t' : Nat} (h : stp K W tb t) (h' : stp K W tb t') : t = t' := by
  rcases Nat.lt_trichotomy t t' with q | q | q
  · exact absurd (h'.1 t q) h.2
  · exact q
  · exact absurd (h.1 t' q) h'.2
theorem q_lt (hR : okR K W tb) : ∀ t, (∀ t', t' < t → cont K W tb t') → ∀ j, 0 < j → j < qM K W tb t → qF K W tb t j < j ∧ qB K W tb t j < K
  | 0, _, j, h1, h2 => by
    have : qM K W tb 0 = 1 := rfl
    omega
  | t + 1, hc, j, h1, h2 => by
    have hK2 := hR.1
    have ih := q_lt hR t (fun t' h => hc t' (by omega))
    have hct := hc t (by omega)
    by_cases h : mtb (qS K W tb t) (qX K W tb t) (qM K W tb t) = true
    · have e := q_old h
      unfold qM qF qB at *
      rw [e] at h2 ⊢
      exact ih j h1 h2
    · have e := q_new h
      have em : qM K W tb (t + 1) = qM K W tb t + 1 := by
        show (bq K W tb (t + 1)).1 = _
        rw [e]
      have ef : qF K W tb (t + 1) j = if j = qM K W tb t then t / K else qF K W tb t j := by
        show (bq K W tb (t + 1)).2.2.1 j = _
        rw [e]
      have eb : qB K W tb (t + 1) j = if j = qM K W tb t then t % K else qB K W tb t j := by
        show (bq K W tb (t + 1)).2.2.2 j = _
        rw [e]
      rw [ef, eb]
      by_cases q : j = qM K W tb t
      · rw [if_pos q, if_pos q]
        exact ⟨by rw [q]; exact hct.1, Nat.mod_lt _ (by omega)⟩
      · rw [if_neg q, if_neg q]
        exact ih j h1 (by omega)
/-- the set that a word leads to -/
def xW (K W : Nat) (tb : Nat → Nat) : List Nat → Int64
  | [] => aS (K ^ (W - 1))
  | s :: w => nX K W tb (xW K W tb w) s
theorem xW_bit (hR : okR K W tb) : ∀ w y, y < K ^ (W - 1) → (bt (xW K W tb w) y = true ↔ 1 ≤ runN K W tb (fun _ => 1) w y) := by
  have hN := pw_le1 hR.2.1 hR.2.2.2.1
  intro w
  induction w with
  | nil =>
    intro y hy
    show bt (aS (K ^ (W - 1))) y = true ↔ 1 ≤ 1
    rw [aS_bit hN (by omega)]
    exact ⟨fun _ => Nat.le_refl _, fun _ => hy⟩
  | cons s w ih =>
    intro y hy
    show bt (nX K W tb (xW K W tb w) s) y = true ↔ 1 ≤ stN K W tb (runN K W tb (fun _ => 1) w) s y
    rw [nX_bit hR (by omega)]
    constructor
    · rintro ⟨u, h1, h2, h3, h4⟩
      have g := step_ge (K := K) (W := W) (tb := tb) (c := runN K W tb (fun _ => 1) w) h1
      rw [h3, h4] at g
      have := (ih (u / K) (div_lt' hR h1)).mp h2
      omega
    · intro h
      apply Classical.byContradiction
      intro hno
      have hz : stN K W tb (runN K W tb (fun _ => 1) w) s y = 0 := by
        refine sN_zero _ (fun u hu => ?_)
        by_cases q : tb u = s ∧ u % K ^ (W - 1) = y
        · rw [if_pos q]
          rcases Nat.eq_zero_or_pos (runN K W tb (fun _ => 1) w (u / K)) with z | z
          · exact z
          · exact absurd ⟨u, hu, (ih (u / K) (div_lt' hR hu)).mpr z, q.1, q.2⟩ hno
        · exact if_neg q
      omega
/-- a search that closes has met no pair that parts and meets -/
theorem no_close (hR : okR K W tb) (hD : dD K W tb) {t : Nat} (hc : ∀ t', t' < t → cont K W tb t') (hm : ¬ t / K < qM K W tb t) : False := by
  have hN := pw_le1 hR.2.1 hR.2.2.2.1
  have hNp := pw_pos (W := W - 1) hR.1
  have hK2 := hR.1
  obtain ⟨w, hw, hz⟩ := moore hR hD
  have hle : qM K W tb t * K ≤ t := by
    have h1 := Nat.div_mul_le_self t K
    have h2 : qM K W tb t * K ≤ t / K * K := Nat.mul_le_mul_right K (by omega)
    omega
  have all : ∀ w, vw K w → (∃ j, j < qM K W tb t ∧ qS K W tb t j = xW K W tb w) ∧ ¬ xW K W tb w = 0 := by
    intro w
    induction w with
    | nil =>
      intro _
      have h0 := q_later (K := K) (W := W) (tb := tb) 0 t
      rw [Nat.zero_add] at h0
      have e1 : qM K W tb 0 = 1 := rfl
      refine ⟨⟨0, by omega, h0.2 0 (by omega)⟩, bt_ne0.mpr ⟨0, by omega, (aS_bit hN (by omega)).mpr hNp⟩⟩
    | cons s w ih =>
      intro hw
      have hs := hw s List.mem_cons_self
      obtain ⟨⟨j, hj, e⟩, hn⟩ := ih (fun t h => hw t (List.mem_cons_of_mem _ h))
      have hlt : j * K + s < t := by
        have : (j + 1) * K ≤ qM K W tb t * K := Nat.mul_le_mul_right K hj
        rw [Nat.succ_mul] at this
        omega
      have hct := hc _ hlt
      have ed : (j * K + s) / K = j := by rw [Nat.mul_comm, Nat.mul_add_div (by omega), Nat.div_eq_of_lt hs, Nat.add_zero]
      have em : (j * K + s) % K = s := by rw [Nat.mul_comm, Nat.mul_add_mod, Nat.mod_eq_of_lt hs]
      have l1 := q_later (K := K) (W := W) (tb := tb) (j * K + s) (t - (j * K + s))
      rw [show j * K + s + (t - (j * K + s)) = t by omega] at l1
      have l2 := q_later (K := K) (W := W) (tb := tb) (j * K + s + 1) (t - (j * K + s + 1))
      rw [show j * K + s + 1 + (t - (j * K + s + 1)) = t by omega] at l2
      have hj1 : j < qM K W tb (j * K + s) := by have := hct.1; rw [ed] at this; exact this
      have ex : qX K W tb (j * K + s) = xW K W tb (s :: w) := by
        unfold qX
        rw [ed, em, ← l1.2 j hj1, e]
        rfl
      obtain ⟨j2, h1, h2⟩ := q_in (K := K) (W := W) (tb := tb) (j * K + s)
      refine ⟨⟨j2, by omega, (l2.2 j2 h1).trans (h2.trans ex)⟩, ?_⟩
      rw [← ex]; exact hct.2.1
  refine (all w hw).2 (bt_eq0.mpr (fun y hy => ?_))
  by_cases hyN : y < K ^ (W - 1)
  · cases q : bt (xW K W tb w) y with
    | false => rfl
    | true => have := (xW_bit hR w y hyN).mp q; rw [hz y hyN] at this; omega
  · cases w with
    | nil =>
      cases q : bt (xW K W tb []) y with
      | false => rfl
      | true => exact absurd ((aS_bit hN hy).mp q) hyN
    | cons s w =>
      cases q : bt (xW K W tb (s :: w)) y with
      | false => rfl
      | true =>
        obtain ⟨u, h1, h2, h3, h4⟩ := (nX_bit hR hy).mp q
        exact absurd (by rw [← h4]; exact Nat.mod_lt _ hNp) hyN
/-- the way back -/
def ch (fr : Nat → Nat) : Nat → Nat → Nat
  | 0, i => i
  | k + 1, i => fr (ch fr k i)
def wr (fr by' : Nat → Nat) (i s : Nat) (z : Int32) (f : Nat → Int32) : Prop := ∃ d, d ≤ i ∧ ch fr d i = 0 ∧ (∀ k, k < d → 0 < ch fr k i) ∧ z = nI (d + 1) ∧ f d = nI s ∧ ∀ k, k < d → f (d - 1 - k) = nI (by' (ch fr k i))
theorem ch_le {fr : Nat → Nat} {i : Nat} (h : ∀ j, 0 < j → j ≤ i → fr j < j) : ∀ k, (∀ k', k' < k → 0 < ch fr k' i) → ch fr k i + k ≤ i
  | 0, _ => by show i + 0 ≤ i; omega
  | k + 1, hk => by
    have h1 := ch_le h k (fun k' q => hk k' (by omega))
    have h2 := h (ch fr k i) (hk k (by omega)) (by omega)
    show fr (ch fr k i) + (k + 1) ≤ i
    omega
theorem wr_uniq {fr by' : Nat → Nat} {i s : Nat} {z z' : Int32} {f f' : Nat → Int32} (h : wr fr by' i s z f) (h' : wr fr by' i s z' f') : z = z' ∧ ∀ d, z = nI d → d < 2 ^ 31 → i < 2 ^ 30 → ∀ j, j < d → f j = f' j := by
  obtain ⟨d, h0, h1, h2, h3, h4, h5⟩ := h
  obtain ⟨d', g0, g1, g2, g3, g4, g5⟩ := h'
  have e : d = d' := by
    rcases Nat.lt_trichotomy d d' with q | q | q
    · have := g2 d q; omega
    · exact q
    · have := h2 d' q; omega
  subst e
  refine ⟨h3.trans g3.symm, fun m hm hb hi j hj => ?_⟩
  have em : d + 1 = m := (nI_nat (by omega) hb).mp (h3.symm.trans hm)
  by_cases q : j = d
  · rw [q, h4, g4]
  · have a1 := h5 (d - 1 - j) (by omega)
    have a2 := g5 (d - 1 - j) (by omega)
    rw [show d - 1 - (d - 1 - j) = j by omega] at a1 a2
    rw [a1, a2]
/-- the orphan that counts: its length (or 0, or -2) and its cells -/
def oS (K W : Nat) (tb : Nat → Nat) (z : Int32) (f : Nat → Int32) : Prop := (sj K W tb ∧ z = 0) ∨ (¬ sj K W tb ∧ ∃ t, t / K < 500 ∧ stp K W tb t ∧ ((¬ qX K W tb t = 0 ∧ z = -2) ∨ (qX K W tb t = 0 ∧ wr (qF K W tb t) (qB K W tb t) (t / K) (t % K) z f)))
theorem oS_rng {z : Int32} {f : Nat → Int32} (h : oS K W tb z f) : (z = 0 ∨ z = -2) ∨ ∃ d, 1 ≤ d ∧ d ≤ 500 ∧ z = nI d := by
  rcases h with ⟨_, h⟩ | ⟨_, t, ht, _, ⟨_, h⟩ | ⟨_, d, h0, _, _, h, _⟩⟩
  · exact Or.inl (Or.inl h)
  · exact Or.inl (Or.inr h)
  · exact Or.inr ⟨d + 1, by omega, by omega, h⟩
theorem oS_uniq {z z' : Int32} {f f' : Nat → Int32} (h : oS K W tb z f) (h' : oS K W tb z' f') : z = z' ∧ ∀ d, z = nI d → 1 ≤ d → d ≤ 500 → ∀ j, j < d → f j = f' j := by
  have bad : ∀ d : Nat, 1 ≤ d → d ≤ 500 → ¬ (0 : Int32) = nI d ∧ ¬ (-2 : Int32) = nI d := fun d h1 h2 => ⟨fun e => nI_ne0 (by omega) (by omega) e.symm, fun e => absurd (show (nI d) < 0 by rw [← e]; decide) (nI_pos (by omega))⟩
  rcases h with ⟨h1, h2⟩ | ⟨h1, t, ht, h2, h3⟩
  · rcases h' with ⟨g1, g2⟩ | ⟨g1, _⟩
    · exact ⟨h2.trans g2.symm, fun d e a b => absurd (h2.symm.trans e) (bad d a b).1⟩
    · exact absurd h1 g1
  · rcases h' with ⟨g1, g2⟩ | ⟨g1, t', ht', g2, g3⟩
    · exact absurd g1 h1
    · have e := stp_uniq h2 g2
      subst e
      rcases h3 with ⟨a1, a2⟩ | ⟨a1, a2⟩
      · rcases g3 with ⟨b1, b2⟩ | ⟨b1, b2⟩
        · exact ⟨a2.trans b2.symm, fun d e a b => absurd (a2.symm.trans e) (bad d a b).2⟩
        · exact absurd b1 a1
      · rcases g3 with ⟨b1, b2⟩ | ⟨b1, b2⟩
        · exact absurd a1 b1
        · have u := wr_uniq a2 b2
          exact ⟨u.1, fun d e a b => u.2 d e (by omega) (by omega)⟩
end BF
