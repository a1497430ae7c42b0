/-! Weights: the equations, the ties, the one weight of a free state. -/
def ind (a s : Nat) : Int := if a = s then 1 else 0
def smu (f : Nat → Nat → Int) : Nat → Nat → Int
  | 0, _ => 0
  | m + 1, s => smu f m s + f m s
def gA (K W : Nat) (tb : Nat → Nat) (n i s : Nat) : Int := ind (tb (n % K ^ (W - 1) / K ^ i)) s
def gB (K W : Nat) (tb : Nat → Nat) (n i s : Nat) : Int := ind (tb (n / K / K ^ i)) s
def eq0 (K W : Nat) (tb : Nat → Nat) (n s : Nat) : Int := ind (tb n) s - ind (n / K ^ (W - 1)) s - smu (gA K W tb n) (W - 1) s + smu (gB K W tb n) (W - 1) s
def eqv (K W : Nat) (tb : Nat → Nat) (n s : Nat) : Int := if s = 0 then 0 else eq0 K W tb n s
theorem ind_01 (a s : Nat) : 0 ≤ ind a s ∧ ind a s ≤ 1 := by
  unfold ind
  split <;> exact ⟨by decide, by decide⟩
theorem sm_01 {f : Nat → Nat → Int} {s : Nat} (h : ∀ i, 0 ≤ f i s ∧ f i s ≤ 1) : ∀ m : Nat, 0 ≤ smu f m s ∧ smu f m s ≤ m
  | 0 => ⟨Int.le_refl _, Int.le_refl _⟩
  | m + 1 => by
    have a := sm_01 h m
    have b := h m
    show 0 ≤ smu f m s + f m s ∧ smu f m s + f m s ≤ _
    omega
theorem sm_0 {f : Nat → Nat → Int} {s : Nat} : ∀ m : Nat, (∀ i, i < m → f i s = 0) → smu f m s = 0
  | 0, _ => rfl
  | m + 1, h => by
    show smu f m s + f m s = 0
    rw [sm_0 m (fun i hi => h i (by omega)), h m (by omega)]; rfl
theorem eqv_le {K W : Nat} {tb : Nat → Nat} (hW : W ≤ 4) (n s : Nat) : (eqv K W tb n s).natAbs ≤ 4 := by
  unfold eqv
  split
  · decide
  · unfold eq0
    have a := ind_01 (tb n) s
    have b := ind_01 (n / K ^ (W - 1)) s
    have c := sm_01 (f := gA K W tb n) (s := s) (fun i => ind_01 _ s) (W - 1)
    have d := sm_01 (f := gB K W tb n) (s := s) (fun i => ind_01 _ s) (W - 1)
    omega
theorem ind_ne {a s : Nat} (h : a < s) : ind a s = 0 := if_neg (by omega)
theorem eqv_hi {K W : Nat} {tb : Nat → Nat} (hK : 2 ≤ K) (hW : 1 ≤ W) (ht : ∀ j, j < K ^ W → tb j < K) {n s : Nat} (hn : n < K ^ W) (hs : K ≤ s) : eqv K W tb n s = 0 := by
  have hp : 0 < K ^ (W - 1) := Nat.pow_pos (by omega)
  have hps : K ^ W = K ^ (W - 1) * K := by rw [← Nat.pow_succ, show (W - 1).succ = W by omega]
  have hle : K ^ (W - 1) ≤ K ^ W := Nat.pow_le_pow_right (by omega) (by omega)
  unfold eqv
  rw [if_neg (by omega)]
  unfold eq0
  have h1 := ht n hn
  have h2 : n / K ^ (W - 1) < K := Nat.div_lt_of_lt_mul (by rw [← hps]; exact hn)
  rw [ind_ne (by omega), ind_ne (by omega), sm_0, sm_0]
  · rfl
  · intro i _
    have : n / K / K ^ i ≤ n := Nat.le_trans (Nat.div_le_self _ _) (Nat.div_le_self _ _)
    exact ind_ne (Nat.lt_of_lt_of_le (ht _ (by omega)) hs)
  · intro i _
    have h3 : n % K ^ (W - 1) < K ^ (W - 1) := Nat.mod_lt _ hp
    have : n % K ^ (W - 1) / K ^ i ≤ n % K ^ (W - 1) := Nat.div_le_self _ _
    exact ind_ne (Nat.lt_of_lt_of_le (ht _ (by omega)) hs)
def cm (e r : Nat → Int) (t i : Nat) : Int := e i * r t - r i * e t
def red (e r : Nat → Int) (t : Nat) : Nat → Int := shr (cm e r t)
def tieF (T : Nat → Nat → Int) : (Nat → Int) → Nat → Nat → Nat → Int
  | _, 0 => T
  | e, t + 1 => if e (t + 1) = 0 then tieF T e t else if T (t + 1) (t + 1) = 0 then (fun s => if s = t + 1 then e else T s) else tieF T (red e (T (t + 1)) (t + 1)) t
def tAll (K W : Nat) (tb : Nat → Nat) : Nat → Nat → Nat → Int
  | 0 => fun _ _ => 0
  | n + 1 => tieF (tAll K W tb n) (eqv K W tb n) (K - 1)
def B9 (t : Nat) : Nat := if t ≤ 1 then 2048 else if t = 2 then 32 else 4
theorem B9_le (t : Nat) : B9 t ≤ 2048 := by unfold B9; split <;> (try split) <;> decide
theorem B9_4 (t : Nat) : 4 ≤ B9 t := by unfold B9; split <;> (try split) <;> decide
theorem B9_s {t : Nat} (h : t < 3) : 2 * (B9 (t + 1) * B9 (t + 1)) ≤ B9 t ∨ t = 0 := by
  have : t = 0 ∨ t = 1 ∨ t = 2 := by omega
  rcases this with e | e | e <;> subst e <;> decide
theorem B9_m {t : Nat} (h : t < 3) : B9 (t + 1) ≤ B9 t := by
  have : t = 0 ∨ t = 1 ∨ t = 2 := by omega
  rcases this with e | e | e <;> subst e <;> decide
theorem mul_abs_le {a b : Int} {m k : Nat} (h1 : a.natAbs ≤ m) (h2 : b.natAbs ≤ k) : (a * b).natAbs ≤ m * k := by
  rw [Int.natAbs_mul]; exact Nat.mul_le_mul h1 h2
theorem cm_le {e r : Nat → Int} {t i m k : Nat} (h1 : ∀ i, i < 4 → (e i).natAbs ≤ m) (h2 : ∀ i, i < 4 → (r i).natAbs ≤ k) (ht : t < 4) (hi : i < 4) : (cm e r t i).natAbs ≤ 2 * (m * k) := by
  unfold cm
  have a := mul_abs_le (h1 i hi) (h2 t ht)
  have b := mul_abs_le (h2 i hi) (h1 t ht)
  rw [Nat.mul_comm k m] at b
  omega
theorem red_le {e r : Nat → Int} {t i m k : Nat} (h1 : ∀ i, i < 4 → (e i).natAbs ≤ m) (h2 : ∀ i, i < 4 → (r i).natAbs ≤ k) (ht : t < 4) (hi : i < 4) : (red e r t i).natAbs ≤ 2 * (m * k) := Nat.le_trans (shr_abs _ i) (cm_le h1 h2 ht hi)
theorem shr_0 {v : Nat → Int} {i : Nat} (h : v i = 0) : shr v i = 0 := by unfold shr; rw [h, Int.zero_tdiv]
theorem cm_self (e r : Nat → Int) (t : Nat) : cm e r t t = 0 := by unfold cm; rw [Int.mul_comm]; omega
theorem cm_00 {e r : Nat → Int} {t i : Nat} (h1 : e i = 0) (h2 : r i = 0) : cm e r t i = 0 := by unfold cm; rw [h1, h2]; omega
def rowOk (t : Nat) (r : Nat → Int) : Prop := r 0 = 0 ∧ (∀ i, t < i → i < 4 → r i = 0) ∧ ∀ i, i < 4 → (r i).natAbs ≤ B9 t
def tri (K : Nat) (T : Nat → Nat → Int) : Prop := ∀ t, 1 ≤ t → t < 4 → rowOk t (T t) ∧ (K ≤ t → T t t = 0)
theorem rowOk.down {t : Nat} {r : Nat → Int} (h : rowOk (t + 1) r) (h0 : r (t + 1) = 0) (ht : t < 3) : rowOk t r := ⟨h.1, fun i h1 h2 => by
  by_cases e : i = t + 1
  · subst e; exact h0
  · exact h.2.1 i (by omega) h2, fun i hi => Nat.le_trans (h.2.2 i hi) (B9_m ht)⟩
theorem rowOk.red {t : Nat} {e r : Nat → Int} (h : rowOk (t + 1) e) (h2 : rowOk (t + 1) r) (ht : t < 3) (h1 : 1 ≤ t) : rowOk t (red e r (t + 1)) := by
  refine ⟨shr_0 (cm_00 h.1 h2.1), fun i q1 q2 => ?_, fun i hi => ?_⟩
  · by_cases q : i = t + 1
    · subst q; exact shr_0 (cm_self e r _)
    · exact shr_0 (cm_00 (h.2.1 i (by omega) q2) (h2.2.1 i (by omega) q2))
  · refine Nat.le_trans (red_le h.2.2 h2.2.2 (by omega) hi) ?_
    rcases B9_s ht with q | q
    · exact q
    · omega
theorem tieF_tri {K : Nat} {T : Nat → Nat → Int} (hT : tri K T) : ∀ (t : Nat) (e : Nat → Int), t < K → t < 4 → (1 ≤ t → rowOk t e) → tri K (tieF T e t)
  | 0, _, _, _, _ => hT
  | t + 1, e, h1, h2, he => by
    have he := he (by omega)
    show tri K (if e (t + 1) = 0 then tieF T e t else if T (t + 1) (t + 1) = 0 then (fun s => if s = t + 1 then e else T s) else tieF T (red e (T (t + 1)) (t + 1)) t)
    by_cases q : e (t + 1) = 0
    · rw [if_pos q]
      exact tieF_tri hT t e (by omega) (by omega) (fun _ => he.down q (by omega))
    · rw [if_neg q]
      by_cases q2 : T (t + 1) (t + 1) = 0
      · rw [if_pos q2]
        intro s hs1 hs2
        show rowOk s (if s = t + 1 then e else T s) ∧ (K ≤ s → (if s = t + 1 then e else T s) s = 0)
        by_cases q3 : s = t + 1
        · subst q3
          rw [if_pos rfl]
          exact ⟨he, fun h => by omega⟩
        · rw [if_neg q3]
          exact hT s hs1 hs2
      · rw [if_neg q2]
        exact tieF_tri hT t _ (by omega) (by omega) (fun h => he.red (hT (t + 1) (by omega) h2).1 (by omega) h)
theorem eqv_ok {K W : Nat} {tb : Nat → Nat} (hK : 2 ≤ K) (hW : 1 ≤ W) (hW4 : W ≤ 4) (ht : ∀ j, j < K ^ W → tb j < K) {n : Nat} (hn : n < K ^ W) : rowOk (K - 1) (eqv K W tb n) := ⟨if_pos rfl, fun i h1 _ => eqv_hi hK hW ht hn (by omega), fun i _ => Nat.le_trans (eqv_le hW4 n i) (B9_4 _)⟩
theorem tAll_tri {K W : Nat} {tb : Nat → Nat} (hK : 2 ≤ K) (hK4 : K ≤ 4) (hW : 1 ≤ W) (hW4 : W ≤ 4) (ht : ∀ j, j < K ^ W → tb j < K) : ∀ n, n ≤ K ^ W → tri K (tAll K W tb n)
  | 0, _ => fun t _ _ => ⟨⟨rfl, fun _ _ _ => rfl, fun _ _ => Nat.zero_le _⟩, fun _ => rfl⟩
  | n + 1, hn => tieF_tri (tAll_tri hK hK4 hW hW4 ht n (by omega)) (K - 1) _ (by omega) (by omega) (fun _ => eqv_ok hK hW hW4 ht (by omega))
def dot (r w : Nat → Int) : Int := r 1 * w 1 + r 2 * w 2 + r 3 * w 3
def sol (T : Nat → Nat → Int) (f : Nat) (w : Nat → Int) : Prop := w 0 = 0 ∧ (∀ i, 1 ≤ i → i < 4 → i ≠ f → T i i = 0 → w i = 0) ∧ (∀ t, 1 ≤ t → t < 4 → T t t ≠ 0 → dot (T t) w = 0) ∧ 0 < w f ∧ g9 w = 1
theorem prop3 {a b c x y z x' y' z' p p' : Int} (hc : c ≠ 0) (h1 : a * x + b * y + c * z = 0) (h2 : a * x' + b * y' + c * z' = 0) (ex : p * x' = p' * x) (ey : p * y' = p' * y) : p * z' = p' * z := by
  have : c * (p * z' - p' * z) = 0 := by grind
  rcases Int.mul_eq_zero.mp this with h | h
  · exact absurd h hc
  · omega
theorem g9_mul {v w : Nat → Int} {c : Nat} (h : ∀ i, 1 ≤ i → i < 4 → w i = c * v i) : g9 w = c * g9 v := by
  have e : ∀ i, 1 ≤ i → i < 4 → (w i).natAbs = c * (v i).natAbs := fun i h1 h2 => by rw [h i h1 h2, Int.natAbs_mul, Int.natAbs_natCast]
  unfold g9
  rw [e 1 (by decide) (by decide), e 2 (by decide) (by decide), e 3 (by decide) (by decide), Nat.gcd_mul_left, Nat.gcd_mul_left]
theorem sol_uniq {K f : Nat} {T : Nat → Nat → Int} {w w' : Nat → Int} (hT : tri K T) (h1 : sol T f w) (h2 : sol T f w') : ∀ i, i < 4 → w i = w' i := by
  obtain ⟨a0, a1, a2, a3, a4⟩ := h1
  obtain ⟨b0, b1, b2, b3, b4⟩ := h2
  have go : ∀ i, 1 ≤ i → i < 4 → (i ≠ f → T i i ≠ 0 → w f * w' i = w' f * w i) → w f * w' i = w' f * w i := fun i hi hi4 h => by
    by_cases e : i = f
    · subst e; exact Int.mul_comm _ _
    · by_cases q : T i i = 0
      · rw [a1 i hi hi4 e q, b1 i hi hi4 e q]; simp
      · exact h e q
  have z12 := (hT 1 (by decide) (by decide)).1.2.1 2 (by decide) (by decide)
  have z13 := (hT 1 (by decide) (by decide)).1.2.1 3 (by decide) (by decide)
  have z23 := (hT 2 (by decide) (by decide)).1.2.1 3 (by decide) (by decide)
  have p1 : w f * w' 1 = w' f * w 1 := go 1 (by decide) (by decide) (fun _ q => by
    have u := a2 1 (by decide) (by decide) q
    have u' := b2 1 (by decide) (by decide) q
    unfold dot at u u'
    rw [z12, z13] at u u'
    exact prop3 (a := 0) (b := 0) (x := 0) (y := 0) (x' := 0) (y' := 0) q (by omega) (by omega) (by simp) (by simp))
  have p2 : w f * w' 2 = w' f * w 2 := go 2 (by decide) (by decide) (fun _ q => by
    have u := a2 2 (by decide) (by decide) q
    have u' := b2 2 (by decide) (by decide) q
    unfold dot at u u'
    rw [z23] at u u'
    exact prop3 (a := 0) (b := T 2 1) (x := 0) (y := w 1) (x' := 0) (y' := w' 1) q (by omega) (by omega) (by simp) p1)
  have p3 : w f * w' 3 = w' f * w 3 := go 3 (by decide) (by decide) (fun _ q => prop3 q (a2 3 (by decide) (by decide) q) (b2 3 (by decide) (by decide) q) p1 p2)
  have pp : ∀ i, 1 ≤ i → i < 4 → w f * w' i = w' f * w i := fun i hi hi4 => by
    have : i = 1 ∨ i = 2 ∨ i = 3 := by omega
    rcases this with e | e | e <;> subst e <;> assumption
  have e1 : w f = ((w f).toNat : Int) := by omega
  have e2 : w' f = ((w' f).toNat : Int) := by omega
  have g1 := g9_mul (v := w') (w := fun i => w f * w' i) (c := (w f).toNat) (fun i _ _ => by rw [← e1])
  have g2 := g9_mul (v := w) (w := fun i => w f * w' i) (c := (w' f).toNat) (fun i q1 q2 => by rw [← e2]; exact pp i q1 q2)
  rw [a4] at g2
  rw [b4] at g1
  have ef : w f = w' f := by omega
  intro i hi
  rcases Nat.eq_zero_or_pos i with e | e
  · subst e; rw [a0, b0]
  · have := pp i e hi
    rw [← ef] at this
    exact (Int.eq_of_mul_eq_mul_left (by omega) this).symm
/-! The class's weight of a free state. -/
def wSum (r v : Nat → Int) : Nat → Int
  | 0 => 0
  | m + 1 => wSum r v m + r m * v m
def wNew (r v : Nat → Int) (t : Nat) (s : Nat) : Int := if s < t then v s * r t else if s = t then -wSum r v t else v s
def wI (T : Nat → Nat → Int) (f t : Nat) (v : Nat → Int) : Prop := v 0 = 0 ∧ (∀ i, t ≤ i → i < 4 → v i = 0) ∧ v f ≠ 0 ∧ (∀ i, 1 ≤ i → i < 4 → i ≠ f → T i i = 0 → v i = 0) ∧ (∀ t', 1 ≤ t' → t' < t → T t' t' ≠ 0 → dot (T t') v = 0) ∧ g9 v = 1 ∧ ∀ i, i < 4 → (v i).natAbs ≤ 100 ^ (t - 2)
theorem sum_dot {r v : Nat → Int} {t : Nat} (h1 : 1 ≤ t) (h2 : t < 4) (h0 : v 0 = 0) (hv : ∀ i, t ≤ i → i < 4 → v i = 0) : wSum r v t = dot r v := by
  have : t = 1 ∨ t = 2 ∨ t = 3 := by omega
  unfold dot
  rcases this with e | e | e <;> subst e
  · rw [hv 1 (by decide) (by decide), hv 2 (by decide) (by decide), hv 3 (by decide) (by decide)]
    show 0 + r 0 * v 0 = _
    rw [h0]; simp
  · rw [hv 2 (by decide) (by decide), hv 3 (by decide) (by decide)]
    show 0 + r 0 * v 0 + r 1 * v 1 = _
    rw [h0]; simp
  · rw [hv 3 (by decide) (by decide)]
    show 0 + r 0 * v 0 + r 1 * v 1 + r 2 * v 2 = _
    rw [h0]; simp
theorem wSum_le {r v : Nat → Int} {a b : Nat} (h1 : ∀ i, i < 4 → (r i).natAbs ≤ a) (h2 : ∀ i, i < 4 → (v i).natAbs ≤ b) (h0 : v 0 = 0) : ∀ m, m < 4 → (wSum r v m).natAbs ≤ (m - 1) * (a * b)
  | 0, _ => Nat.zero_le _
  | m + 1, h => by
    have ih := wSum_le h1 h2 h0 m (by omega)
    show (wSum r v m + r m * v m).natAbs ≤ _
    rcases Nat.eq_zero_or_pos m with e | e
    · subst e
      rw [h0]
      show ((0 : Int) + r 0 * 0).natAbs ≤ _
      simp
    · have q := mul_abs_le (h1 m (by omega)) (h2 m (by omega))
      have e2 : (m + 1 - 1) * (a * b) = (m - 1) * (a * b) + a * b := by
        rw [show m + 1 - 1 = (m - 1) + 1 by omega, Nat.add_mul, Nat.one_mul]
      rw [e2]
      omega
theorem dot_shr {r v : Nat → Int} (h0 : v 0 = 0) : (g9 v : Int) * dot r (shr v) = dot r v := by
  have a := shr_mul h0 (i := 1) (by decide)
  have b := shr_mul h0 (i := 2) (by decide)
  have c := shr_mul h0 (i := 3) (by decide)
  unfold dot
  rw [← a, ← b, ← c]
  grind
theorem g9_ne {v : Nat → Int} {i : Nat} (h1 : 1 ≤ i) (h2 : i < 4) (h : v i ≠ 0) : ¬ g9 v = 0 := fun e => h (g9_zero e h1 h2)
theorem dot_scale {r v w : Nat → Int} {c : Int} (h : ∀ i, 1 ≤ i → i < 4 → r i ≠ 0 → w i = v i * c) : dot r w = dot r v * c := by
  have q : ∀ i, 1 ≤ i → i < 4 → r i * w i = r i * v i * c := fun i h1 h2 => by
    by_cases e : r i = 0
    · rw [e]; simp
    · rw [h i h1 h2 e]; grind
  unfold dot
  rw [q 1 (by decide) (by decide), q 2 (by decide) (by decide), q 3 (by decide) (by decide)]
  grind
theorem wI_first {K f : Nat} {T : Nat → Nat → Int} {v : Nat → Int} (hT : tri K T) (h1 : 1 ≤ f) (h2 : f < 4) (hf : T f f = 0) (hv : ∀ i, i < 4 → v i = if i = f then 1 else 0) : wI T f (f + 1) v := by
  refine ⟨by rw [hv 0 (by decide), if_neg (by omega)], fun i q1 q2 => by rw [hv i q2, if_neg (by omega)], by rw [hv f h2, if_pos rfl]; decide, fun i q1 q2 q3 _ => by rw [hv i q2, if_neg q3], fun t' q1 q2 q3 => ?_, ?_, fun i q => ?_⟩
  · have ne : t' ≠ f := fun e => by subst e; exact q3 hf
    have z := (hT t' q1 (by omega)).1.2.1
    have e : ∀ i, 1 ≤ i → i < 4 → T t' i * v i = 0 := fun i a b => by
      by_cases q : i = f
      · subst q; rw [z i (by omega) b]; simp
      · rw [hv i b, if_neg q]; simp
    unfold dot
    rw [e 1 (by decide) (by decide), e 2 (by decide) (by decide), e 3 (by decide) (by decide)]; rfl
  · have : f = 1 ∨ f = 2 ∨ f = 3 := by omega
    unfold g9
    rw [hv 1 (by decide), hv 2 (by decide), hv 3 (by decide)]
    rcases this with e | e | e <;> subst e <;> decide
  · rw [hv i q]
    have hp : 0 < 100 ^ (f + 1 - 2) := Nat.pow_pos (by decide)
    split
    · show 1 ≤ _; omega
    · show 0 ≤ _; omega
theorem wI_skip {K f t : Nat} {T : Nat → Nat → Int} {v : Nat → Int} (hT : tri K T) (h1 : 2 ≤ t) (h2 : t < 4) (h : wI T f t v) (hs : T t t = 0 ∨ wSum (T t) v t = 0) : wI T f (t + 1) v := by
  obtain ⟨a, b, c, d, e, g, i⟩ := h
  refine ⟨a, fun i q1 q2 => b i (by omega) q2, c, d, fun t' q1 q2 q3 => ?_, g, fun j hj => Nat.le_trans (i j hj) (Nat.pow_le_pow_right (by decide) (by omega))⟩
  by_cases q : t' = t
  · subst q
    rcases hs with hs | hs
    · exact absurd hs q3
    · rw [← sum_dot q1 h2 a b]; exact hs
  · exact e t' q1 (by omega) q3
theorem B9_2 {t : Nat} (h : 2 ≤ t) : B9 t ≤ 32 := by unfold B9; rw [if_neg (by omega)]; split <;> decide
theorem wNew_le {K f t : Nat} {T : Nat → Nat → Int} {v : Nat → Int} (hT : tri K T) (h1 : 2 ≤ t) (h2 : t < 4) (h : wI T f t v) : ∀ i, i < 4 → (wNew (T t) v t i).natAbs ≤ 100 ^ (t + 1 - 2) := by
  obtain ⟨a, b, c, d, e, g, q⟩ := h
  have hr : ∀ i, i < 4 → (T t i).natAbs ≤ 32 := fun i hi => Nat.le_trans ((hT t (by omega) h2).1.2.2 i hi) (B9_2 h1)
  have hs := wSum_le hr q a t h2
  have e1 : 100 ^ (t + 1 - 2) = 100 ^ (t - 2) * 100 := by rw [show t + 1 - 2 = (t - 2) + 1 by omega, Nat.pow_succ]
  have e2 : (t - 1) * (32 * 100 ^ (t - 2)) ≤ 2 * (32 * 100 ^ (t - 2)) := Nat.mul_le_mul_right _ (by omega)
  intro i hi
  unfold wNew
  split
  · have := mul_abs_le (q i hi) (hr t h2)
    omega
  · split
    · rw [Int.natAbs_neg]; omega
    · rw [b i (by omega) hi]; exact Nat.zero_le _
theorem wI_step {K f t : Nat} {T : Nat → Nat → Int} {v : Nat → Int} (hT : tri K T) (hf1 : 1 ≤ f) (hft : f < t) (h1 : 2 ≤ t) (h2 : t < 4) (h : wI T f t v) (hp : T t t ≠ 0) : wI T f (t + 1) (shr (wNew (T t) v t)) := by
  have hle := wNew_le hT h1 h2 h
  obtain ⟨a, b, c, d, e, g, q⟩ := h
  have lo : ∀ i, i < t → wNew (T t) v t i = v i * T t t := fun i hi => if_pos hi
  have w0 : wNew (T t) v t 0 = 0 := by rw [lo 0 (by omega), a]; simp
  have hf : wNew (T t) v t f ≠ 0 := by
    rw [lo f hft]
    exact Int.mul_ne_zero c hp
  have hg := g9_ne hf1 (by omega) hf
  have hg' : (g9 (wNew (T t) v t) : Int) ≠ 0 := by omega

  refine ⟨shr_0 w0, fun i q1 q2 => shr_0 ?_, fun z => ?_, fun i q1 q2 q3 q4 => shr_0 ?_, fun t' q1 q2 q3 => ?_, g9_one hg, fun i hi => Nat.le_trans (shr_abs _ i) (hle i hi)⟩
  · unfold wNew
    rw [if_neg (by omega), if_neg (by omega), b i (by omega) q2]
  · have := shr_mul w0 (i := f) (by omega)
    rw [z] at this
    apply hf
    rw [← this]; simp
  · by_cases z : i < t
    · rw [lo i z, d i q1 q2 q3 q4]; simp
    · have ne : i ≠ t := fun z2 => by subst z2; exact hp q4
      unfold wNew
      rw [if_neg z, if_neg ne]; exact b i (by omega) q2
  · have key : dot (T t') (wNew (T t) v t) = 0 := by
      by_cases z : t' = t
      · subst z
        have s := sum_dot (r := T t') (v := v) q1 h2 a b
        have z3 := (hT t' q1 h2).1.2.1
        have et : wNew (T t') v t' t' = -wSum (T t') v t' := by unfold wNew; rw [if_neg (by omega), if_pos rfl]
        have : t' = 2 ∨ t' = 3 := by omega
        rcases this with z2 | z2 <;> subst z2
        · unfold dot at s ⊢
          rw [lo 1 (by decide), et, z3 3 (by decide) (by decide)]
          rw [z3 3 (by decide) (by decide), b 2 (by decide) (by decide)] at s
          grind
        · unfold dot at s ⊢
          rw [lo 1 (by decide), lo 2 (by decide), et]
          rw [b 3 (by decide) (by decide)] at s
          grind
      · have z3 := (hT t' q1 (by omega)).1.2.1
        rw [dot_scale (v := v) (c := T t t) (fun i i1 i2 i3 => lo i ?_), e t' q1 (by omega) q3]
        · simp
        · rcases (show i ≤ t' ∨ t' < i by omega) with z4 | z4
          · omega
          · exact absurd (z3 i z4 i2) i3
    have := dot_shr (r := T t') w0
    rw [key] at this
    rcases Int.mul_eq_zero.mp this with z | z
    · exact absurd z hg'
    · exact z
theorem g9_neg {v w : Nat → Int} (h : ∀ i, i < 4 → w i = -v i) : g9 w = g9 v := by
  unfold g9
  rw [h 1 (by decide), h 2 (by decide), h 3 (by decide), Int.natAbs_neg, Int.natAbs_neg, Int.natAbs_neg]
theorem wI_pos {K f t : Nat} {T : Nat → Nat → Int} {v : Nat → Int} (hT : tri K T) (hK : K ≤ t) (h : wI T f t v) (h0 : 0 ≤ v f) : sol T f v := by
  obtain ⟨a, b, c, d, e, g, q⟩ := h
  refine ⟨a, d, fun t' q1 q2 q3 => e t' q1 ?_ q3, by omega, g⟩
  rcases (show t' < t ∨ t ≤ t' by omega) with z | z
  · exact z
  · exact absurd ((hT t' q1 q2).2 (by omega)) q3
theorem wI_neg {K f t : Nat} {T : Nat → Nat → Int} {v w : Nat → Int} (hT : tri K T) (hK : K ≤ t) (hf : f < 4) (h : wI T f t v) (h0 : ¬ 0 ≤ v f) (hw : ∀ i, i < 4 → w i = -v i) : sol T f w := by
  obtain ⟨a, b, c, d, e, g, q⟩ := h
  refine ⟨by rw [hw 0 (by decide), a]; rfl, fun i q1 q2 q3 q4 => by rw [hw i q2, d i q1 q2 q3 q4]; rfl, fun t' q1 q2 q3 => ?_, by rw [hw f hf]; omega, (g9_neg hw).trans g⟩
  rw [dot_scale (v := v) (c := -1) (fun i _ i2 _ => by rw [hw i i2]; omega)]
  have : t' < t := by
    rcases (show t' < t ∨ t ≤ t' by omega) with z | z
    · exact z
    · exact absurd ((hT t' q1 q2).2 (by omega)) q3
  rw [e t' q1 this q3]; rfl
