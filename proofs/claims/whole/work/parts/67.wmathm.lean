/-! The reference's weight of a free state. -/
def clF (T R : Nat → Nat → Int) : (Nat → Int) → Nat → Nat → Int
  | r, 0 => r
  | r, i + 1 => if T (i + 1) (i + 1) ≠ 0 ∧ r (i + 1) ≠ 0 then clF T R (red r (R (i + 1)) (i + 1)) i else clF T R r i
def clA (T : Nat → Nat → Int) : Nat → Nat → Nat → Int
  | 0 => T
  | s + 1 => if T (s + 1) (s + 1) ≠ 0 then (fun t => if t = s + 1 then clF T (clA T s) (clA T s (s + 1)) s else clA T s t) else clA T s
def bOk (T : Nat → Nat → Int) (b : Nat → Nat → Nat) : Prop := (∀ t, 1 ≤ t → t < 4 → B9 t ≤ b t (t - 1)) ∧ ∀ t i, t < 4 → i + 1 < t → (T (i + 1) (i + 1) ≠ 0 → 2 * (b t (i + 1) * b (i + 1) 0) ≤ b t i) ∧ b t (i + 1) ≤ b t i
/-- a row of t, cleared down to i -/
def cIr (T : Nat → Nat → Int) (b : Nat → Nat → Nat) (t i : Nat) (r : Nat → Int) : Prop := r 0 = 0 ∧ r t ≠ 0 ∧ (∀ j, t < j → j < 4 → r j = 0) ∧ (∀ j, i < j → j < t → T j j ≠ 0 → r j = 0) ∧ ∀ j, j < 4 → (r j).natAbs ≤ b t i
def aI (T : Nat → Nat → Int) (b : Nat → Nat → Nat) (s : Nat) (R : Nat → Nat → Int) : Prop := ∀ t, 1 ≤ t → t < 4 → (t ≤ s → T t t ≠ 0 → cIr T b t 0 (R t)) ∧ (s < t ∨ T t t = 0 → R t = T t)
theorem shr_ne {v : Nat → Int} {i : Nat} (h0 : v 0 = 0) (hi : i < 4) (h : v i ≠ 0) : shr v i ≠ 0 := fun e => by
  have := shr_mul h0 hi
  rw [e] at this
  exact h (by rw [← this]; simp)
theorem cI_skip {T : Nat → Nat → Int} {b : Nat → Nat → Nat} {t i : Nat} {r : Nat → Int} (hb : bOk T b) (ht : t < 4) (hi : i + 1 < t) (h : cIr T b t (i + 1) r) (q : T (i + 1) (i + 1) = 0 ∨ r (i + 1) = 0) : cIr T b t i r := by
  obtain ⟨h1, h2, h3, h4, h5⟩ := h
  refine ⟨h1, h2, h3, fun j q1 q2 q3 => ?_, fun j hj => Nat.le_trans (h5 j hj) (hb.2 t i ht hi).2⟩
  by_cases e : j = i + 1
  · subst e
    rcases q with q | q
    · exact absurd q q3
    · exact q
  · exact h4 j (by omega) q2 q3
theorem cI_red {T : Nat → Nat → Int} {b : Nat → Nat → Nat} {t i : Nat} {r p : Nat → Int} (hb : bOk T b) (ht : t < 4) (hi : i + 1 < t) (h : cIr T b t (i + 1) r) (hp : cIr T b (i + 1) 0 p) (q : T (i + 1) (i + 1) ≠ 0) : cIr T b t i (red r p (i + 1)) := by
  obtain ⟨h1, h2, h3, h4, h5⟩ := h
  obtain ⟨p1, p2, p3, p4, p5⟩ := hp
  have c0 : cm r p (i + 1) 0 = 0 := cm_00 h1 p1
  refine ⟨shr_0 c0, shr_ne c0 ht ?_, fun j q1 q2 => shr_0 (cm_00 (h3 j q1 q2) (p3 j (by omega) q2)), fun j q1 q2 q3 => ?_, fun j hj => Nat.le_trans (red_le h5 p5 (by omega) hj) ((hb.2 t i ht hi).1 q)⟩
  · unfold cm
    rw [p3 t hi ht, Int.zero_mul, Int.sub_zero]
    exact Int.mul_ne_zero h2 p2
  · by_cases e : j = i + 1
    · subst e; exact shr_0 (cm_self _ _ _)
    · exact shr_0 (cm_00 (h4 j (by omega) q2 q3) (p3 j (by omega) (by omega)))
theorem clF_ok {T R : Nat → Nat → Int} {b : Nat → Nat → Nat} {t : Nat} (hb : bOk T b) (ht : t < 4) (hR : ∀ i, 1 ≤ i → i < t → T i i ≠ 0 → cIr T b i 0 (R i)) : ∀ (i : Nat) (r : Nat → Int), i < t → cIr T b t i r → cIr T b t 0 (clF T R r i)
  | 0, _, _, h => h
  | i + 1, r, hi, h => by
    show cIr T b t 0 (if T (i + 1) (i + 1) ≠ 0 ∧ r (i + 1) ≠ 0 then clF T R (red r (R (i + 1)) (i + 1)) i else clF T R r i)
    by_cases q : T (i + 1) (i + 1) ≠ 0 ∧ r (i + 1) ≠ 0
    · rw [if_pos q]
      exact clF_ok hb ht hR i _ (by omega) (cI_red hb ht hi h (hR (i + 1) (by omega) hi q.1) q.1)
    · rw [if_neg q]
      refine clF_ok hb ht hR i r (by omega) (cI_skip hb ht hi h ?_)
      by_cases q2 : T (i + 1) (i + 1) = 0
      · exact Or.inl q2
      · exact Or.inr (Decidable.byContradiction (fun q3 => q ⟨q2, q3⟩))
theorem cI_first {K : Nat} {T : Nat → Nat → Int} {b : Nat → Nat → Nat} {t : Nat} (hT : tri K T) (hb : bOk T b) (h1 : 1 ≤ t) (h2 : t < 4) (hp : T t t ≠ 0) : cIr T b t (t - 1) (T t) := by
  obtain ⟨a1, a2, a3⟩ := (hT t h1 h2).1
  exact ⟨a1, hp, a2, fun j q1 q2 _ => by omega, fun j hj => Nat.le_trans (a3 j hj) (hb.1 t h1 h2)⟩
theorem clA_ok {K : Nat} {T : Nat → Nat → Int} {b : Nat → Nat → Nat} (hT : tri K T) (hb : bOk T b) : ∀ s, s < 4 → aI T b s (clA T s)
  | 0, _ => fun t h1 _ => ⟨fun h => by omega, fun _ => rfl⟩
  | s + 1, hs => by
    have ih := clA_ok hT hb s (by omega)
    intro t h1 h2
    show (t ≤ s + 1 → T t t ≠ 0 → cIr T b t 0 ((if T (s + 1) (s + 1) ≠ 0 then (fun t => if t = s + 1 then clF T (clA T s) (clA T s (s + 1)) s else clA T s t) else clA T s) t)) ∧ (s + 1 < t ∨ T t t = 0 → (if T (s + 1) (s + 1) ≠ 0 then (fun t => if t = s + 1 then clF T (clA T s) (clA T s (s + 1)) s else clA T s t) else clA T s) t = T t)
    by_cases q : T (s + 1) (s + 1) ≠ 0
    · rw [if_pos q]
      show (t ≤ s + 1 → T t t ≠ 0 → cIr T b t 0 (if t = s + 1 then clF T (clA T s) (clA T s (s + 1)) s else clA T s t)) ∧ (s + 1 < t ∨ T t t = 0 → (if t = s + 1 then clF T (clA T s) (clA T s (s + 1)) s else clA T s t) = T t)
      by_cases e : t = s + 1
      · subst e
        rw [if_pos rfl]
        refine ⟨fun _ _ => clF_ok hb h2 (fun i i1 i2 i3 => (ih i i1 (by omega)).1 (by omega) i3) s _ (by omega) ?_, fun h => ?_⟩
        · rw [(ih (s + 1) h1 h2).2 (Or.inl (by omega))]
          exact cI_first hT hb h1 h2 q
        · rcases h with h | h
          · omega
          · exact absurd h q
      · rw [if_neg e]
        exact ⟨fun h3 h4 => (ih t h1 h2).1 (by omega) h4, fun h => (ih t h1 h2).2 (h.elim (fun z => Or.inl (by omega)) Or.inr)⟩
    · rw [if_neg q]
      refine ⟨fun h3 h4 => (ih t h1 h2).1 ?_ h4, fun h => (ih t h1 h2).2 (h.elim (fun z => Or.inl (by omega)) Or.inr)⟩
      rcases (show t ≤ s ∨ t = s + 1 by omega) with z | z
      · exact z
      · subst z; exact absurd h4 q
theorem dot_cm {e r w : Nat → Int} {t : Nat} : dot (cm e r t) w = dot e w * r t - dot r w * e t := by unfold dot cm; grind
theorem dot_shl {v w : Nat → Int} (h0 : v 0 = 0) : (g9 v : Int) * dot (shr v) w = dot v w := by
  have a := shr_mul h0 (i := 1) (by decide)
  have b := shr_mul h0 (i := 2) (by decide)
  have c := shr_mul h0 (i := 3) (by decide)
  unfold dot
  rw [← a, ← b, ← c]
  grind
theorem dot_red {e r w : Nat → Int} {t : Nat} (h1 : e 0 = 0) (h2 : r 0 = 0) (hr : r t ≠ 0) (hd : dot r w = 0) (h : dot (red e r t) w = 0) : dot e w = 0 := by
  have a := dot_shl (v := cm e r t) (w := w) (cm_00 h1 h2)
  have a2 : dot (shr (cm e r t)) w = 0 := h
  rw [a2, dot_cm, hd] at a
  have : dot e w * r t = 0 := by omega
  rcases Int.mul_eq_zero.mp this with z | z
  · exact z
  · exact absurd z hr
theorem clF_dot {T R : Nat → Nat → Int} {b : Nat → Nat → Nat} {t : Nat} {w : Nat → Int} (hR : ∀ i, 1 ≤ i → i < t → T i i ≠ 0 → cIr T b i 0 (R i) ∧ dot (R i) w = 0) : ∀ (i : Nat) (r : Nat → Int), i < t → r 0 = 0 → dot (clF T R r i) w = 0 → dot r w = 0
  | 0, _, _, _, h => h
  | i + 1, r, hi, h0, h => by
    have h : dot (if T (i + 1) (i + 1) ≠ 0 ∧ r (i + 1) ≠ 0 then clF T R (red r (R (i + 1)) (i + 1)) i else clF T R r i) w = 0 := h
    by_cases q : T (i + 1) (i + 1) ≠ 0 ∧ r (i + 1) ≠ 0
    · rw [if_pos q] at h
      have hh := hR (i + 1) (by omega) hi q.1
      have z := clF_dot hR i (red r (R (i + 1)) (i + 1)) (by omega) (shr_0 (cm_00 h0 hh.1.1)) h
      exact dot_red h0 hh.1.1 hh.1.2.1 hh.2 z
    · rw [if_neg q] at h
      exact clF_dot hR i r (by omega) h0 h
theorem clA_keep {T : Nat → Nat → Int} {t : Nat} : ∀ s, t ≤ s → clA T s t = clA T t t
  | 0, h => by rw [show t = 0 by omega]
  | s + 1, h => by
    rcases (show t = s + 1 ∨ t ≤ s by omega) with e | e
    · rw [e]
    · show (if T (s + 1) (s + 1) ≠ 0 then (fun t => if t = s + 1 then clF T (clA T s) (clA T s (s + 1)) s else clA T s t) else clA T s) t = _
      have ih := clA_keep (T := T) s e
      by_cases q : T (s + 1) (s + 1) ≠ 0
      · rw [if_pos q]
        show (if t = s + 1 then _ else clA T s t) = _
        rw [if_neg (by omega)]; exact ih
      · rw [if_neg q]; exact ih
theorem clA_dot {K : Nat} {T : Nat → Nat → Int} {b : Nat → Nat → Nat} {w : Nat → Int} (hT : tri K T) (hb : bOk T b) : ∀ s, s < 4 → (∀ t, 1 ≤ t → t ≤ s → T t t ≠ 0 → dot (clA T s t) w = 0) → ∀ t, 1 ≤ t → t ≤ s → T t t ≠ 0 → dot (T t) w = 0 := by
  intro s hs h t h1 h2 h3
  have hk := h t h1 h2 h3
  rw [clA_keep s h2] at hk
  obtain ⟨t', rfl⟩ : ∃ t', t = t' + 1 := ⟨t - 1, by omega⟩
  have e : clA T (t' + 1) (t' + 1) = clF T (clA T t') (clA T t' (t' + 1)) t' := by
    show (if T (t' + 1) (t' + 1) ≠ 0 then (fun t => if t = t' + 1 then clF T (clA T t') (clA T t' (t' + 1)) t' else clA T t' t) else clA T t') (t' + 1) = _
    rw [if_pos h3]
    show (if t' + 1 = t' + 1 then _ else _) = _
    rw [if_pos rfl]
  have ok := clA_ok hT hb t' (by omega)
  rw [e, (ok (t' + 1) h1 (by omega)).2 (Or.inl (by omega))] at hk
  refine clF_dot (b := b) (R := clA T t') (t := t' + 1) (fun i i1 i2 i3 => ⟨(ok i i1 (by omega)).1 (by omega) i3, ?_⟩) t' (T (t' + 1)) (by omega) (hT (t' + 1) h1 (by omega)).1.1 hk
  have := h i i1 (by omega) i3
  rw [clA_keep s (by omega)] at this
  rw [clA_keep t' (by omega)]; exact this
/-- how great the rows grow -/
def b0 (t i : Nat) : Nat := if t ≤ 1 then 2 ^ 11 else if t = 2 then (if 1 ≤ i then 2 ^ 5 else 2 ^ 17) else if 2 ≤ i then 4 else if 1 ≤ i then 2 ^ 20 else 2 ^ 32
def b1 (t i : Nat) : Nat := if t ≤ 1 then 2 ^ 11 else if t = 2 then 2 ^ 5 else if 2 ≤ i then 4 else 2 ^ 8
def b2 (t i : Nat) : Nat := if t ≤ 1 then 2 ^ 11 else if t = 2 then (if 1 ≤ i then 2 ^ 5 else 2 ^ 17) else if 1 ≤ i then 4 else 2 ^ 14
theorem ti_cases {P : Nat → Nat → Prop} (h20 : P 2 0) (h30 : P 3 0) (h31 : P 3 1) : ∀ t i, t < 4 → i + 1 < t → P t i := fun t i h1 h2 => by
  have : (t = 2 ∧ i = 0) ∨ (t = 3 ∧ i = 0) ∨ (t = 3 ∧ i = 1) := by omega
  rcases this with ⟨a, b⟩ | ⟨a, b⟩ | ⟨a, b⟩ <;> subst a b <;> assumption
theorem t_cases {P : Nat → Prop} (h1 : P 1) (h2 : P 2) (h3 : P 3) : ∀ t, 1 ≤ t → t < 4 → P t := fun t a b => by
  have : t = 1 ∨ t = 2 ∨ t = 3 := by omega
  rcases this with e | e | e <;> subst e <;> assumption
theorem b0_ok (T : Nat → Nat → Int) : bOk T b0 := ⟨t_cases (by decide) (by decide) (by decide), ti_cases ⟨fun _ => by decide, by decide⟩ ⟨fun _ => by decide, by decide⟩ ⟨fun _ => by decide, by decide⟩⟩
theorem b1_ok {T : Nat → Nat → Int} (h : T 1 1 = 0) : bOk T b1 := ⟨t_cases (by decide) (by decide) (by decide), ti_cases ⟨fun q => absurd h q, by decide⟩ ⟨fun q => absurd h q, by decide⟩ ⟨fun _ => by decide, by decide⟩⟩
theorem b2_ok {T : Nat → Nat → Int} (h : T 2 2 = 0) : bOk T b2 := ⟨t_cases (by decide) (by decide) (by decide), ti_cases ⟨fun _ => by decide, by decide⟩ ⟨fun _ => by decide, by decide⟩ ⟨fun q => absurd h q, by decide⟩⟩
theorem b0_le (t i : Nat) : b0 t i ≤ 2 ^ 32 := by
  unfold b0
  repeat' split
  all_goals decide
/-- rows of states above a free state are small -/
theorem clA_small {K f : Nat} {T : Nat → Nat → Int} (hT : tri K T) (hf1 : 1 ≤ f) (hf : T f f = 0) {s t : Nat} (hs : s < 4) (ht : t ≤ s) (hft : f < t) (hp : T t t ≠ 0) : ∀ j, j < 4 → (clA T s t j).natAbs ≤ 2 ^ 14 := by
  have : f = 1 ∨ f = 2 := by omega
  rcases this with e | e <;> subst e
  · intro j hj
    refine Nat.le_trans (((clA_ok hT (b1_ok hf) s hs) t (by omega) (by omega)).1 ht hp |>.2.2.2.2 j hj) ?_
    unfold b1
    repeat' split
    all_goals decide
  · intro j hj
    refine Nat.le_trans (((clA_ok hT (b2_ok hf) s hs) t (by omega) (by omega)).1 ht hp |>.2.2.2.2 j hj) ?_
    have : t = 3 := by omega
    subst this
    decide
def pA9 (T R : Nat → Nat → Int) (i : Nat) : Int := if T i i = 0 then 1 else R i i
def pB9 (T R : Nat → Nat → Int) (f i : Nat) : Int := if T i i = 0 then 0 else R i f
def part9 (T R : Nat → Nat → Int) (f i : Nat) : Nat := (pA9 T R i).natAbs / Nat.gcd (pA9 T R i).natAbs (pB9 T R f i).natAbs
def uF (T R : Nat → Nat → Int) (f : Nat) : Nat → Nat
  | 0 => 1
  | m + 1 => Nat.lcm (uF T R f m) (part9 T R f (m + 1))
def w9 (K : Nat) (T R : Nat → Nat → Int) (f U i : Nat) : Int := if i = f then (U : Int) else if i = 0 ∨ K ≤ i ∨ T i i = 0 then 0 else ((-R i f) * (U : Int)).tdiv (R i i)
theorem part_dvd {T R : Nat → Nat → Int} {f i : Nat} : ∀ m, 1 ≤ i → i ≤ m → part9 T R f i ∣ uF T R f m
  | 0, h1, h2 => by omega
  | m + 1, h1, h2 => by
    show part9 T R f i ∣ Nat.lcm (uF T R f m) (part9 T R f (m + 1))
    rcases (show i = m + 1 ∨ i ≤ m by omega) with e | e
    · subst e; exact Nat.dvd_lcm_right _ _
    · exact Nat.dvd_trans (part_dvd m h1 e) (Nat.dvd_lcm_left _ _)
theorem uF_dvd {T R : Nat → Nat → Int} {f x : Nat} : ∀ m, (∀ i, 1 ≤ i → i ≤ m → part9 T R f i ∣ x) → uF T R f m ∣ x
  | 0, _ => Nat.one_dvd x
  | m + 1, h => Nat.lcm_dvd (uF_dvd m (fun i h1 h2 => h i h1 (by omega))) (h (m + 1) (by omega) (Nat.le_refl _))
theorem part_pos {T R : Nat → Nat → Int} {f i : Nat} (h : T i i ≠ 0 → R i i ≠ 0) : 0 < part9 T R f i := by
  have ha : pA9 T R i ≠ 0 := by
    unfold pA9
    split
    · decide
    · exact h (by assumption)
  have : 0 < (pA9 T R i).natAbs := by omega
  exact Nat.div_pos (Nat.gcd_le_left _ this) (Nat.gcd_pos_of_pos_left _ this)
theorem uF_pos {T R : Nat → Nat → Int} {f : Nat} : ∀ m, (∀ i, 1 ≤ i → i ≤ m → T i i ≠ 0 → R i i ≠ 0) → 0 < uF T R f m
  | 0, _ => Nat.one_pos
  | m + 1, h => Nat.lcm_pos (uF_pos m (fun i h1 h2 => h i h1 (by omega))) (part_pos (h (m + 1) (by omega) (Nat.le_refl _)))
theorem uF_le {T R : Nat → Nat → Int} {f b : Nat} : ∀ m, (∀ i, 1 ≤ i → i ≤ m → part9 T R f i ≤ b) → uF T R f m ≤ b ^ m
  | 0, _ => Nat.le_refl _
  | m + 1, h => by
    show Nat.lcm (uF T R f m) (part9 T R f (m + 1)) ≤ b ^ (m + 1)
    rw [Nat.pow_succ]
    refine Nat.le_trans ?_ (Nat.mul_le_mul (uF_le m (fun i h1 h2 => h i h1 (by omega))) (h (m + 1) (by omega) (Nat.le_refl _)))
    exact Nat.div_le_self _ _
theorem w9_sol {K f : Nat} {T : Nat → Nat → Int} (hT : tri K T) (hK : K ≤ 4) (hf1 : 1 ≤ f) (hfK : f < K) (hf : T f f = 0) : sol T f (w9 K T (clA T (K - 1)) f (uF T (clA T (K - 1)) f (K - 1))) := by
  have hA := clA_ok hT (b0_ok T) (K - 1) (by omega)
  generalize hR : clA T (K - 1) = R at hA ⊢
  have hp : ∀ i, 1 ≤ i → i ≤ K - 1 → T i i ≠ 0 → R i i ≠ 0 := fun i h1 h2 h3 => ((hA i h1 (by omega)).1 h2 h3).2.1
  have hU : 0 < uF T R f (K - 1) := uF_pos (K - 1) hp
  have hdv : ∀ i, 1 ≤ i → i ≤ K - 1 → part9 T R f i ∣ uF T R f (K - 1) := fun i h1 h2 => part_dvd (K - 1) h1 h2
  have hmin : ∀ x, (∀ i, 1 ≤ i → i ≤ K - 1 → part9 T R f i ∣ x) → uF T R f (K - 1) ∣ x := fun x h => uF_dvd (K - 1) h
  generalize uF T R f (K - 1) = U at hU hdv hmin ⊢
  have wf : w9 K T R f U f = U := if_pos rfl
  have wz : ∀ i, i ≠ f → (i = 0 ∨ K ≤ i ∨ T i i = 0) → w9 K T R f U i = 0 := fun i h1 h2 => by unfold w9; rw [if_neg h1, if_pos h2]
  have wp : ∀ i, 1 ≤ i → i < K → T i i ≠ 0 → w9 K T R f U i = ((-R i f) * (U : Int)).tdiv (R i i) := fun i h1 h2 h3 => by
    unfold w9
    rw [if_neg (fun e => by subst e; exact h3 hf), if_neg (fun h => by rcases h with h | h | h <;> first | omega | exact h3 h)]
  -- the exact quotient
  have ex : ∀ i, 1 ≤ i → i < K → T i i ≠ 0 → ∃ m, U = part9 T R f i * m ∧ R i i * w9 K T R f U i = (-R i f) * (U : Int) ∧ (w9 K T R f U i).natAbs = (R i f).natAbs / Nat.gcd (R i i).natAbs (R i f).natAbs * m ∧ part9 T R f i = (R i i).natAbs / Nat.gcd (R i i).natAbs (R i f).natAbs := fun i h1 h2 h3 => by
    obtain ⟨m, hm⟩ := hdv i h1 (by omega)
    have ep : part9 T R f i = (R i i).natAbs / Nat.gcd (R i i).natAbs (R i f).natAbs := by
      unfold part9 pA9 pB9
      rw [if_neg h3, if_neg h3]
    have ha : 0 < (R i i).natAbs := by
      have := hp i h1 (by omega) h3
      omega
    have g1 : Nat.gcd (R i i).natAbs (R i f).natAbs ∣ (R i i).natAbs := Nat.gcd_dvd_left _ _
    have g2 : Nat.gcd (R i i).natAbs (R i f).natAbs ∣ (R i f).natAbs := Nat.gcd_dvd_right _ _
    have e1 := Nat.div_mul_cancel g1
    have e2 := Nat.div_mul_cancel g2
    have key : (R i f).natAbs * U = (R i i).natAbs * ((R i f).natAbs / Nat.gcd (R i i).natAbs (R i f).natAbs * m) := by
      rw [hm, ep]
      generalize (R i i).natAbs / Nat.gcd (R i i).natAbs (R i f).natAbs = a' at e1 ⊢
      generalize (R i f).natAbs / Nat.gcd (R i i).natAbs (R i f).natAbs = b' at e2 ⊢
      generalize Nat.gcd (R i i).natAbs (R i f).natAbs = g at e1 e2 ⊢
      rw [← e1, ← e2]
      grind
    have dv : R i i ∣ (-R i f) * (U : Int) := by
      rw [← Int.natAbs_dvd_natAbs, Int.natAbs_mul, Int.natAbs_neg, Int.natAbs_natCast, key]
      exact Nat.dvd_mul_right _ _
    refine ⟨m, hm, ?_, ?_, ep⟩
    · rw [wp i h1 h2 h3]; exact Int.mul_tdiv_cancel' dv
    · rw [wp i h1 h2 h3, Int.natAbs_tdiv, Int.natAbs_mul, Int.natAbs_neg, Int.natAbs_natCast, key]
      exact Nat.mul_div_cancel_left _ ha
  refine ⟨wz 0 (by omega) (Or.inl rfl), fun i h1 h2 h3 h4 => wz i h3 (Or.inr (Or.inr h4)), ?_, by rw [wf]; omega, ?_⟩
  · have dR : ∀ t, 1 ≤ t → t ≤ K - 1 → T t t ≠ 0 → dot (R t) (w9 K T R f U) = 0 := fun t h1 h2 h3 => by
      obtain ⟨m, _, e2, _, _⟩ := ex t h1 (by omega) h3
      obtain ⟨_, _, c3, c4, _⟩ := (hA t h1 (by omega)).1 h2 h3
      have nf : t ≠ f := fun e => by subst e; exact h3 hf
      have o : ∀ i, 1 ≤ i → i < 4 → i ≠ f → i ≠ t → R t i * w9 K T R f U i = 0 := fun i i1 i2 i3 i4 => by
        by_cases q : T i i = 0
        · rw [wz i i3 (Or.inr (Or.inr q))]; simp
        · rcases (show i < t ∨ t < i by omega) with z | z
          · rw [c4 i (by omega) z q]; simp
          · rw [c3 i z i2]; simp
      have s : R t f * w9 K T R f U f + R t t * w9 K T R f U t = 0 := by rw [wf, e2]; grind
      unfold dot
      have ht4 : t < 4 := by omega
      have hf4 : f < 4 := by omega
      have ct : t = 1 ∨ t = 2 ∨ t = 3 := by omega
      have cf : f = 1 ∨ f = 2 ∨ f = 3 := by omega
      have o1 := o 1 (by decide) (by decide)
      have o2 := o 2 (by decide) (by decide)
      have o3 := o 3 (by decide) (by decide)
      rcases ct with z | z | z <;> rcases cf with z' | z' | z' <;> subst z z' <;> first | exact absurd rfl nf | skip
      · have := o3 (by decide) (by decide); omega
      · have := o2 (by decide) (by decide); omega
      · have := o3 (by decide) (by decide); omega
      · have := o1 (by decide) (by decide); omega
      · have := o2 (by decide) (by decide); omega
      · have := o1 (by decide) (by decide); omega
    intro t h1 h2 h3
    have hK2 : t ≤ K - 1 := by
      rcases (show t ≤ K - 1 ∨ K ≤ t by omega) with z | z
      · exact z
      · exact absurd ((hT t h1 h2).2 z) h3
    subst hR
    exact clA_dot hT (b0_ok T) (K - 1) (by omega) dR t h1 hK2 h3
  · have gd : ∀ i, 1 ≤ i → i < 4 → g9 (w9 K T R f U) ∣ (w9 K T R f U i).natAbs := fun i h1 h2 => Int.ofNat_dvd_left.mp (g9_dvd _ h1 h2)
    generalize g9 (w9 K T R f U) = d at gd
    have gU : d ∣ U := by
      have := gd f hf1 (by omega)
      rw [wf] at this
      exact this
    have hall : ∀ i, 1 ≤ i → i ≤ K - 1 → part9 T R f i ∣ U / d := fun i h1 h2 => by
      by_cases q : T i i = 0
      · have : part9 T R f i = 1 := by
          unfold part9 pA9 pB9
          rw [if_pos q, if_pos q]; decide
        rw [this]; exact Nat.one_dvd _
      · obtain ⟨m, e1, _, e3, e4⟩ := ex i h1 (by omega) q
        have hdm : d ∣ m := by
          have d1 : d ∣ part9 T R f i * m := by rw [← e1]; exact gU
          have d2 : d ∣ (R i f).natAbs / Nat.gcd (R i i).natAbs (R i f).natAbs * m := by
            rw [← e3]; exact gd i h1 (by omega)
          have d3 := Nat.dvd_gcd d1 d2
          rw [Nat.gcd_mul_right, e4] at d3
          have ha : 0 < (R i i).natAbs := by
            have := hp i h1 (by omega) q
            omega
          have co : Nat.gcd ((R i i).natAbs / Nat.gcd (R i i).natAbs (R i f).natAbs) ((R i f).natAbs / Nat.gcd (R i i).natAbs (R i f).natAbs) = 1 := by
            rw [Nat.gcd_div (Nat.gcd_dvd_left _ _) (Nat.gcd_dvd_right _ _)]
            exact Nat.div_self (Nat.gcd_pos_of_pos_left _ ha)
          rw [co, Nat.one_mul] at d3
          exact d3
        obtain ⟨m', rfl⟩ := hdm
        have hd : 0 < d := Nat.pos_of_dvd_of_pos gU hU
        rw [e1, show part9 T R f i * (d * m') = d * (part9 T R f i * m') by grind, Nat.mul_div_cancel_left _ hd]
        exact Nat.dvd_mul_right _ _
    have := hmin (U / d) hall
    have hd : 0 < d := Nat.pos_of_dvd_of_pos gU hU
    have hq : 0 < U / d := Nat.div_pos (Nat.le_of_dvd hU gU) hd
    have le := Nat.le_of_dvd hq this
    rcases (show d = 1 ∨ 2 ≤ d by omega) with z | z
    · exact z
    · exfalso
      have : U / d < U := Nat.div_lt_self hU z
      omega
