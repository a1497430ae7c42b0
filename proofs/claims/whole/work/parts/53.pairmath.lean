/-! Pairs of walks: what parts and meets, what stays apart. -/
def go2 (K W : Nat) (tb : Nat → Nat) (x y x' y' : Nat) : Prop := ∃ u w, u < K ^ W ∧ w < K ^ W ∧ u / K = x ∧ w / K = y ∧ tb u = tb w ∧ u % K ^ (W - 1) = x' ∧ w % K ^ (W - 1) = y'
def Mt (K W : Nat) (tb : Nat → Nat) (x y : Nat) : Prop := ∀ P : Nat → Nat → Prop, (∀ u w, u < w → w < K ^ W → u / K = w / K → tb u = tb w → P (u % K ^ (W - 1)) (w % K ^ (W - 1))) → (∀ x y x' y', P x y → go2 K W tb x y x' y' → P x' y') → P x y
theorem Mt.part {K W : Nat} {tb : Nat → Nat} {u w : Nat} (h1 : u < w) (h2 : w < K ^ W) (h3 : u / K = w / K) (h4 : tb u = tb w) : Mt K W tb (u % K ^ (W - 1)) (w % K ^ (W - 1)) := fun _ p _ => p u w h1 h2 h3 h4
theorem Mt.on {K W : Nat} {tb : Nat → Nat} {x y x' y' : Nat} (h1 : Mt K W tb x y) (h2 : go2 K W tb x y x' y') : Mt K W tb x' y' := fun P p q => q x y x' y' (h1 P p q) h2
def Mr (K W : Nat) (tb : Nat → Nat) (x y : Nat) : Prop := ∀ P : Nat → Nat → Prop, (∀ a x y, go2 K W tb a a x y → x ≠ y → P x y) → (∀ x y x' y', P x y → go2 K W tb x y x' y' → x' ≠ y' → P x' y') → P x y
theorem Mr.part {K W : Nat} {tb : Nat → Nat} {a x y : Nat} (h1 : go2 K W tb a a x y) (h2 : x ≠ y) : Mr K W tb x y := fun _ p _ => p a x y h1 h2
theorem Mr.on {K W : Nat} {tb : Nat → Nat} {x y x' y' : Nat} (h1 : Mr K W tb x y) (h2 : go2 K W tb x y x' y') (h3 : x' ≠ y') : Mr K W tb x' y' := fun P p q => q x y x' y' (h1 P p q) h2 h3
theorem Mr.inv {K W : Nat} {tb : Nat → Nat} {x y : Nat} (h : Mr K W tb x y) : (∃ a, go2 K W tb a a x y ∧ x ≠ y) ∨ ∃ a b, Mr K W tb a b ∧ go2 K W tb a b x y ∧ x ≠ y :=
  (h (fun x y => Mr K W tb x y ∧ ((∃ a, go2 K W tb a a x y ∧ x ≠ y) ∨ ∃ a b, Mr K W tb a b ∧ go2 K W tb a b x y ∧ x ≠ y)) (fun a x y h1 h2 => ⟨Mr.part h1 h2, Or.inl ⟨a, h1, h2⟩⟩) (fun x y x' y' h1 h2 h3 => ⟨Mr.on h1.1 h2 h3, Or.inr ⟨x, y, h1.1, h2, h3⟩⟩)).2
/-- from here two walks can meet -/
def Rm (K W : Nat) (tb : Nat → Nat) (x y : Nat) : Prop := ∀ P : Nat → Nat → Prop, (∀ x y z, go2 K W tb x y z z → P x y) → (∀ x y x' y', P x' y' → go2 K W tb x y x' y' → x' ≠ y' → P x y) → P x y
theorem Rm.meet {K W : Nat} {tb : Nat → Nat} {x y z : Nat} (h1 : go2 K W tb x y z z) : Rm K W tb x y := fun _ p _ => p x y z h1
theorem Rm.on {K W : Nat} {tb : Nat → Nat} {x y x' y' : Nat} (h1 : Rm K W tb x' y') (h2 : go2 K W tb x y x' y') (h3 : x' ≠ y') : Rm K W tb x y := fun P p q => q x y x' y' (h1 P p q) h2 h3
theorem Rm.inv {K W : Nat} {tb : Nat → Nat} {x y : Nat} (h : Rm K W tb x y) : (∃ z, go2 K W tb x y z z) ∨ ∃ a b, Rm K W tb a b ∧ go2 K W tb x y a b ∧ a ≠ b :=
  (h (fun x y => Rm K W tb x y ∧ ((∃ z, go2 K W tb x y z z) ∨ ∃ a b, Rm K W tb a b ∧ go2 K W tb x y a b ∧ a ≠ b)) (fun x y z h1 => ⟨Rm.meet h1, Or.inl ⟨z, h1⟩⟩) (fun x y x' y' h1 h2 h3 => ⟨Rm.on h1.1 h2 h3, Or.inr ⟨x', y', h1.1, h2, h3⟩⟩)).2
def mts (K W : Nat) (tb : Nat → Nat) (x y : Nat) : Prop := ∃ z, go2 K W tb x y z z
def dD (K W : Nat) (tb : Nat → Nat) : Prop := ∃ x y, Mt K W tb x y ∧ mts K W tb x y
def lF (K W : Nat) (tb : Nat → Nat) : Prop := ∃ S : Nat → Nat → Prop, (∃ x y, S x y) ∧ ∀ x y, S x y → x < K ^ (W - 1) ∧ y < K ^ (W - 1) ∧ x ≠ y ∧ ∃ x' y', go2 K W tb x y x' y' ∧ S x' y'
def lR (K W : Nat) (tb : Nat → Nat) : Prop := ∃ S : Nat → Nat → Prop, (∃ x y, S x y) ∧ ∀ x y, S x y → x < K ^ (W - 1) ∧ y < K ^ (W - 1) ∧ x ≠ y ∧ (∃ x' y', go2 K W tb x y x' y' ∧ (x' = y' ∨ S x' y')) ∧ (∃ x' y', go2 K W tb x' y' x y ∧ (x' = y' ∨ S x' y'))
section PM
variable {K W : Nat} {tb : Nat → Nat}
theorem go2.sym {x y x' y' : Nat} (h : go2 K W tb x y x' y') : go2 K W tb y x y' x' := by
  obtain ⟨u, w, h1, h2, h3, h4, h5, h6, h7⟩ := h
  exact ⟨w, u, h2, h1, h4, h3, h5.symm, h7, h6⟩
theorem mts.sym {x y : Nat} (h : mts K W tb x y) : mts K W tb y x := ⟨h.choose, h.choose_spec.sym⟩
theorem Mr_Mt {x y : Nat} (h : Mr K W tb x y) : Mt K W tb x y ∨ Mt K W tb y x := by
  refine h (fun x y => Mt K W tb x y ∨ Mt K W tb y x) ?_ ?_
  · intro a x y h1 h2
    obtain ⟨u, w, h3, h4, h5, h6, h7, h8, h9⟩ := h1
    subst h8 h9
    rcases Nat.lt_trichotomy u w with q | q | q
    · exact Or.inl (Mt.part q h4 (h5.trans h6.symm) h7)
    · exact absurd (by rw [q]) h2
    · exact Or.inr (Mt.part q h3 (h6.trans h5.symm) h7.symm)
  · intro x y x' y' ih h2 h3
    rcases ih with ih | ih
    · exact Or.inl (Mt.on ih h2)
    · exact Or.inr (Mt.on ih h2.sym)
theorem dD_of_Mr {x y : Nat} (h : Mr K W tb x y) (h2 : mts K W tb x y) : dD K W tb := by
  rcases Mr_Mt h with q | q
  · exact ⟨x, y, q, h2⟩
  · exact ⟨y, x, q, h2.sym⟩
theorem part_ne (hK : 2 ≤ K) (hW : 2 ≤ W) {u w : Nat} (h1 : u < w) (h3 : u / K = w / K) : u % K ^ (W - 1) ≠ w % K ^ (W - 1) := by
  intro h
  have e : K ^ (W - 1) = K ^ (W - 2) * K := by
    rw [← Nat.pow_succ]; congr 1; omega
  have hd : K ∣ K ^ (W - 1) := ⟨K ^ (W - 2), by rw [e, Nat.mul_comm]⟩
  have h4 : u % K = w % K := by
    rw [← Nat.mod_mod_of_dvd u hd, ← Nat.mod_mod_of_dvd w hd, h]
  have h5 := Nat.div_add_mod u K
  have h6 := Nat.div_add_mod w K
  rw [h3, h4] at h5
  omega
theorem Mt_Mr (hK : 2 ≤ K) (hW : 2 ≤ W) {x y : Nat} (h : Mt K W tb x y) : Mr K W tb x y ∨ ∃ a b, Mr K W tb a b ∧ mts K W tb a b := by
  refine h (fun x y => Mr K W tb x y ∨ ∃ a b, Mr K W tb a b ∧ mts K W tb a b) ?_ ?_
  · intro u w h1 h2 h3 h4
    exact Or.inl (Mr.part (a := u / K) ⟨u, w, by omega, h2, rfl, h3.symm, h4, rfl, rfl⟩ (part_ne hK hW h1 h3))
  · intro x y x' y' ih h2
    rcases ih with ih | ih
    · by_cases e : x' = y'
      · subst e; exact Or.inr ⟨_, _, ih, _, h2⟩
      · exact Or.inl (Mr.on ih h2 e)
    · exact Or.inr ih
theorem dD_Mr (hK : 2 ≤ K) (hW : 2 ≤ W) : dD K W tb ↔ ∃ a b, Mr K W tb a b ∧ mts K W tb a b := by
  constructor
  · rintro ⟨x, y, h1, h2⟩
    rcases Mt_Mr hK hW h1 with q | q
    · exact ⟨x, y, q, h2⟩
    · exact q
  · rintro ⟨x, y, h1, h2⟩
    exact dD_of_Mr h1 h2
theorem Mr_Rm {x y : Nat} (h2 : Rm K W tb x y) : Mr K W tb x y → ∃ a b, Mr K W tb a b ∧ mts K W tb a b := by
  refine h2 (fun x y => Mr K W tb x y → ∃ a b, Mr K W tb a b ∧ mts K W tb a b) ?_ ?_
  · intro x y z h1 h; exact ⟨_, _, h, _, h1⟩
  · intro x y x' y' ih h2 h3 h; exact ih (Mr.on h h2 h3)
end PM
def cq (P : Nat → Bool) : Nat → Nat
  | 0 => 0
  | m + 1 => cq P m + if P m then 1 else 0
theorem cq_le (P : Nat → Bool) : ∀ m, cq P m ≤ m
  | 0 => Nat.le_refl _
  | m + 1 => by
    have := cq_le P m
    show cq P m + (if P m then 1 else 0) ≤ m + 1
    split <;> omega
theorem cq_mono {P Q : Nat → Bool} : ∀ m, (∀ i, i < m → P i = true → Q i = true) → cq P m ≤ cq Q m
  | 0, _ => Nat.le_refl _
  | m + 1, h => by
    have h1 := cq_mono m (fun i hi => h i (by omega))
    have h2 := h m (by omega)
    show cq P m + (if P m then 1 else 0) ≤ cq Q m + (if Q m then 1 else 0)
    cases hP : P m with
    | false => simp; omega
    | true => rw [h2 hP]; simp; omega
theorem cq_lt {P Q : Nat → Bool} : ∀ m, (∀ i, i < m → P i = true → Q i = true) → (∃ i, i < m ∧ P i = false ∧ Q i = true) → cq P m < cq Q m
  | 0, _, ⟨i, hi, _⟩ => absurd hi (Nat.not_lt_zero i)
  | m + 1, h, ⟨i, hi, hP, hQ⟩ => by
    have h2 := h m (by omega)
    show cq P m + (if P m then 1 else 0) < cq Q m + (if Q m then 1 else 0)
    by_cases e : i = m
    · subst e
      have h1 := cq_mono (P := P) (Q := Q) i (fun j hj => h j (by omega))
      rw [hP, hQ]; simp; omega
    · have h1 := cq_lt m (fun j hj => h j (by omega)) ⟨i, by omega, hP, hQ⟩
      cases hP' : P m with
      | false => simp; omega
      | true => rw [h2 hP']; simp; omega
theorem elim1 {m : Nat} {R : Nat → Nat → Prop} : ∀ k (A : Nat → Bool), cq A m ≤ k → (∀ p, A p = true → p < m) → (∃ p, A p = true) → (∀ p, A p = true → ∃ q, A q = true ∧ R p q) → ∃ B : Nat → Bool, (∀ p, B p = true → A p = true) ∧ (∃ p, B p = true) ∧ ∀ p, B p = true → (∃ q, B q = true ∧ R p q) ∧ (∃ q, B q = true ∧ R q p) := by
  intro k
  induction k with
  | zero =>
    intro A hc hm hn hs
    obtain ⟨p, hp⟩ := hn
    have := cq_lt (P := fun _ => false) (Q := A) m (fun i _ h => by cases h) ⟨p, hm p hp, rfl, hp⟩
    omega
  | succ k ih =>
    intro A hc hm hn hs
    by_cases hall : ∀ p, A p = true → ∃ q, A q = true ∧ R q p
    · exact ⟨A, fun p h => h, hn, fun p h => ⟨hs p h, hall p h⟩⟩
    · have ⟨p, hp⟩ := Classical.not_forall.mp hall
      have ⟨hp1, hp2⟩ := Classical.not_imp.mp hp
      have hno : ∀ q, A q = true → ¬ R q p := fun q hq hr => hp2 ⟨q, hq, hr⟩
      have hx : ∀ q, (A q && decide (q ≠ p)) = true ↔ A q = true ∧ q ≠ p := fun q => by
        rw [Bool.and_eq_true, decide_eq_true_eq]
      have g1 : cq (fun q => A q && decide (q ≠ p)) m ≤ k := by
        have h9 : cq (fun q => A q && decide (q ≠ p)) m < cq A m := cq_lt m (fun i _ h => ((hx i).mp h).1) ⟨p, hm p hp1, (by simp), hp1⟩
        omega
      have g2 : ∃ q, (A q && decide (q ≠ p)) = true := by
        obtain ⟨q, hq1, hq2⟩ := hs p hp1
        exact ⟨q, (hx q).mpr ⟨hq1, fun e => hno p hp1 (by rw [e] at hq2; exact hq2)⟩⟩
      have g3 : ∀ q, (A q && decide (q ≠ p)) = true → ∃ r, (A r && decide (r ≠ p)) = true ∧ R q r := by
        intro q hq
        obtain ⟨r, hr1, hr2⟩ := hs q ((hx q).mp hq).1
        exact ⟨r, (hx r).mpr ⟨hr1, fun e => hno q ((hx q).mp hq).1 (by rw [e] at hr2; exact hr2)⟩, hr2⟩
      obtain ⟨B, hB1, hB2⟩ := ih (fun q => A q && decide (q ≠ p)) g1 (fun q hq => hm q ((hx q).mp hq).1) g2 g3
      exact ⟨B, fun q hq => ((hx q).mp (hB1 q hq)).1, hB2⟩
theorem bool_of (A : Nat → Prop) : ∃ f : Nat → Bool, ∀ i, f i = true ↔ A i := ⟨fun i => @decide (A i) (Classical.propDecidable _), fun i => @decide_eq_true_iff (A i) (Classical.propDecidable _)⟩
theorem elim2 {m : Nat} {R : Nat → Nat → Prop} (A : Nat → Prop) (hm : ∀ p, A p → p < m) (hn : ∃ p, A p) (hs : ∀ p, A p → ∃ q, A q ∧ R p q) : ∃ B : Nat → Prop, (∀ p, B p → A p) ∧ (∃ p, B p) ∧ ∀ p, B p → (∃ q, B q ∧ R p q) ∧ (∃ q, B q ∧ R q p) := by
  obtain ⟨f, hf⟩ := bool_of A
  obtain ⟨B, h1, h2, h3⟩ := elim1 (R := R) m f (cq_le _ _) (fun p h => hm p ((hf p).mp h)) (by obtain ⟨p, hp⟩ := hn; exact ⟨p, (hf p).mpr hp⟩) (fun p h => by
    obtain ⟨q, h1, h2⟩ := hs p ((hf p).mp h)
    exact ⟨q, (hf q).mpr h1, h2⟩)
  exact ⟨fun p => B p = true, fun p h => (hf p).mp (h1 p h), h2, h3⟩
section PM2
variable {K W : Nat} {tb : Nat → Nat}
/-- what stays apart one way stays apart both ways -/
theorem lB (hN : K ^ (W - 1) ≤ 64) {R : Nat → Nat → Prop} (S : Nat → Nat → Prop) (hn : ∃ x y, S x y) (hs : ∀ x y, S x y → x < K ^ (W - 1) ∧ y < K ^ (W - 1) ∧ x ≠ y ∧ ∃ x' y', R (64 * x + y) (64 * x' + y') ∧ S x' y') : ∃ B : Nat → Nat → Prop, (∃ x y, B x y) ∧ ∀ x y, B x y → x < K ^ (W - 1) ∧ y < K ^ (W - 1) ∧ x ≠ y ∧ (∃ x' y', R (64 * x + y) (64 * x' + y') ∧ B x' y') ∧ (∃ x' y', R (64 * x' + y') (64 * x + y) ∧ B x' y') := by
  have dec : ∀ x y, y < 64 → (64 * x + y) / 64 = x ∧ (64 * x + y) % 64 = y := fun x y hy => by omega
  obtain ⟨B, hB1, hB2, hB3⟩ := elim2 (m := 4096) (R := R) (fun p => ∃ x y, S x y ∧ p = 64 * x + y) (fun p ⟨x, y, h, e⟩ => by
      have := hs x y h
      omega) (by obtain ⟨x, y, h⟩ := hn; exact ⟨_, x, y, h, rfl⟩) (fun p ⟨x, y, h, e⟩ => by
      obtain ⟨h1, h2, h3, x', y', h4, h5⟩ := hs x y h
      exact ⟨_, ⟨x', y', h5, rfl⟩, by rw [e]; exact h4⟩)
  refine ⟨fun x y => y < 64 ∧ B (64 * x + y), ?_, ?_⟩
  · obtain ⟨p, hp⟩ := hB2
    obtain ⟨x, y, h, e⟩ := hB1 p hp
    have := hs x y h
    exact ⟨x, y, by omega, by rw [← e]; exact hp⟩
  · rintro x y ⟨hy, hb⟩
    obtain ⟨x2, y2, h, e⟩ := hB1 _ hb
    have h9 := hs x2 y2 h
    have e1 : x = x2 := by omega
    have e2 : y = y2 := by omega
    subst e1 e2
    have back : ∀ q, B q → ∃ x' y', q = 64 * x' + y' ∧ y' < 64 := fun q hq => by
      obtain ⟨x3, y3, h3, e3⟩ := hB1 q hq
      have := hs x3 y3 h3
      exact ⟨x3, y3, e3, by omega⟩
    refine ⟨h9.1, h9.2.1, h9.2.2.1, ?_, ?_⟩
    · obtain ⟨q, hq, hr⟩ := (hB3 _ hb).1
      obtain ⟨x3, y3, e3, h3⟩ := back q hq
      subst e3
      exact ⟨x3, y3, hr, h3, hq⟩
    · obtain ⟨q, hq, hr⟩ := (hB3 _ hb).2
      obtain ⟨x3, y3, e3, h3⟩ := back q hq
      subst e3
      exact ⟨x3, y3, hr, h3, hq⟩
def go4 (K W : Nat) (tb : Nat → Nat) (p q : Nat) : Prop := go2 K W tb (p / 64) (p % 64) (q / 64) (q % 64)
theorem go4_iff {x y x' y' : Nat} (hy : y < 64) (hy' : y' < 64) : go4 K W tb (64 * x + y) (64 * x' + y') ↔ go2 K W tb x y x' y' := by
  unfold go4
  rw [show (64 * x + y) / 64 = x by omega, show (64 * x + y) % 64 = y by omega, show (64 * x' + y') / 64 = x' by omega, show (64 * x' + y') % 64 = y' by omega]
theorem go2_lt (hR : okR K W tb) {x y x' y' : Nat} (h : go2 K W tb x y x' y') : x < K ^ (W - 1) ∧ y < K ^ (W - 1) ∧ x' < K ^ (W - 1) ∧ y' < K ^ (W - 1) := by
  obtain ⟨u, w, h1, h2, h3, h4, h5, h6, h7⟩ := h
  subst h3 h4 h6 h7
  have hNp := pw_pos (W := W - 1) hR.1
  exact ⟨div_lt' hR h1, div_lt' hR h2, Nat.mod_lt _ hNp, Nat.mod_lt _ hNp⟩
theorem lF_lR (hR : okR K W tb) (h : lF K W tb) : lR K W tb := by
  have hN := pw_le1 hR.2.1 hR.2.2.2.1
  obtain ⟨S, hn, hs⟩ := h
  obtain ⟨B, h1, h2⟩ := lB (R := go4 K W tb) hN S hn (fun x y h => by
    obtain ⟨a1, a2, a3, x', y', a4, a5⟩ := hs x y h
    have b := go2_lt hR a4
    exact ⟨a1, a2, a3, x', y', (go4_iff (by omega) (by omega)).mpr a4, a5⟩)
  refine ⟨B, h1, fun x y h => ?_⟩
  obtain ⟨a1, a2, a3, ⟨x', y', a4, a5⟩, x2, y2, a6, a7⟩ := h2 x y h
  have b5 := h2 x' y' a5
  have b7 := h2 x2 y2 a7
  exact ⟨a1, a2, a3, ⟨x', y', (go4_iff (by omega) (by omega)).mp a4, Or.inr a5⟩, x2, y2, (go4_iff (by omega) (by omega)).mp a6, Or.inr a7⟩
theorem Mr_lt (hR : okR K W tb) {x y : Nat} (h : Mr K W tb x y) : x < K ^ (W - 1) ∧ y < K ^ (W - 1) ∧ x ≠ y := by
  rcases h.inv with ⟨a, h1, h2⟩ | ⟨a, b, h1, h2, h3⟩
  · exact ⟨(go2_lt hR h1).2.2.1, (go2_lt hR h1).2.2.2, h2⟩
  · exact ⟨(go2_lt hR h2).2.2.1, (go2_lt hR h2).2.2.2, h3⟩
theorem lR_iff (hR : okR K W tb) (hW : 2 ≤ W) : lR K W tb ↔ dD K W tb ∨ lF K W tb := by
  have hN := pw_le1 hR.2.1 hR.2.2.2.1
  constructor
  · rintro ⟨S, ⟨x0, y0, h0⟩, hs⟩
    by_cases hF : lF K W tb
    · exact Or.inr hF
    have hRm : ∀ x y, S x y → Rm K W tb x y := by
      intro x y hxy
      by_cases q : Rm K W tb x y
      · exact q
      exfalso
      refine hF ⟨fun x y => S x y ∧ ¬ Rm K W tb x y, ⟨x, y, hxy, q⟩, fun x y ⟨h1, h2⟩ => ?_⟩
      obtain ⟨a1, a2, a3, ⟨x', y', a4, a5⟩, -⟩ := hs x y h1
      refine ⟨a1, a2, a3, x', y', a4, ?_⟩
      rcases a5 with a5 | a5
      · subst a5; exact absurd (Rm.meet a4) h2
      · exact ⟨a5, fun r => h2 (Rm.on r a4 (hs x' y' a5).2.2.1)⟩
    have hMr : ∀ x y, S x y → Mr K W tb x y := by
      intro x y hxy
      by_cases q : Mr K W tb x y
      · exact q
      exfalso
      obtain ⟨B, h1, h2⟩ := lB (R := fun p q => go4 K W tb q p) hN (fun x y => S x y ∧ ¬ Mr K W tb x y) ⟨x, y, hxy, q⟩ (fun x y ⟨h1, h2⟩ => by
        obtain ⟨a1, a2, a3, -, x', y', a4, a5⟩ := hs x y h1
        have b := go2_lt hR a4
        refine ⟨a1, a2, a3, x', y', (go4_iff (by omega) (by omega)).mpr a4, ?_⟩
        rcases a5 with a5 | a5
        · subst a5; exact absurd (Mr.part a4 a3) h2
        · exact ⟨a5, fun r => h2 (Mr.on r a4 a3)⟩)
      refine hF ⟨B, h1, fun x y h => ?_⟩
      obtain ⟨a1, a2, a3, -, x2, y2, a6, a7⟩ := h2 x y h
      have b7 := h2 x2 y2 a7
      exact ⟨a1, a2, a3, x2, y2, (go4_iff (by omega) (by omega)).mp a6, a7⟩
    exact Or.inl ((dD_Mr hR.1 hW).mpr (Mr_Rm (hRm _ _ h0) (hMr _ _ h0)))
  · rintro (h | h)
    · obtain ⟨a, b, h1, h2⟩ := (dD_Mr hR.1 hW).mp h
      refine ⟨fun x y => Mr K W tb x y ∧ Rm K W tb x y, ⟨a, b, h1, by obtain ⟨z, hz⟩ := h2; exact Rm.meet hz⟩, ?_⟩
      rintro x y ⟨h3, h4⟩
      have hlt := Mr_lt hR h3
      refine ⟨hlt.1, hlt.2.1, hlt.2.2, ?_, ?_⟩
      · rcases h4.inv with ⟨z, h5⟩ | ⟨a, b, h5, h6, h7⟩
        · exact ⟨_, _, h5, Or.inl rfl⟩
        · exact ⟨_, _, h6, Or.inr ⟨Mr.on h3 h6 h7, h5⟩⟩
      · rcases h3.inv with ⟨a, h5, h6⟩ | ⟨a, b, h5, h6, h7⟩
        · exact ⟨_, _, h5, Or.inl rfl⟩
        · exact ⟨_, _, h6, Or.inr ⟨h5, Rm.on h4 h6 h7⟩⟩
    · exact lF_lR hR h
/-- the answers -/
def sj (K W : Nat) (tb : Nat → Nat) : Prop := ¬ dD K W tb
def ij (K W : Nat) (tb : Nat → Nat) : Prop := ¬ dD K W tb ∧ ¬ lF K W tb
end PM2
