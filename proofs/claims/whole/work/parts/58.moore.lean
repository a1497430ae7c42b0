/-! Two walks that part and meet: then some set of nodes comes to be empty (by counting). -/
def sN (F : Nat → Nat) : Nat → Nat
  | 0 => 0
  | u + 1 => sN F u + F u
theorem sN_congr {F G : Nat → Nat} : ∀ m, (∀ u, u < m → F u = G u) → sN F m = sN G m
  | 0, _ => rfl
  | m + 1, h => by
    show sN F m + F m = sN G m + G m
    rw [sN_congr m (fun u hu => h u (by omega)), h m (by omega)]
theorem sN_zero {F : Nat → Nat} : ∀ m, (∀ u, u < m → F u = 0) → sN F m = 0
  | 0, _ => rfl
  | m + 1, h => by
    show sN F m + F m = 0
    rw [sN_zero m (fun u hu => h u (by omega)), h m (by omega)]
theorem sN_plus {F G : Nat → Nat} : ∀ m, sN (fun u => F u + G u) m = sN F m + sN G m
  | 0 => rfl
  | m + 1 => by
    show sN (fun u => F u + G u) m + (F m + G m) = (sN F m + F m) + (sN G m + G m)
    rw [sN_plus m]
    omega
theorem sN_swap {F : Nat → Nat → Nat} : ∀ N M, sN (fun y => sN (fun u => F y u) M) N = sN (fun u => sN (fun y => F y u) N) M
  | 0, M => (sN_zero M (fun _ _ => rfl)).symm
  | N + 1, M => by
    show sN (fun y => sN (fun u => F y u) M) N + sN (fun u => F N u) M = sN (fun u => sN (fun y => F y u) N + F N u) M
    rw [sN_swap N M, sN_plus]
theorem sN_ind {a v : Nat} : ∀ m, sN (fun y => if a = y then v else 0) m = if a < m then v else 0
  | 0 => by simp [sN]
  | m + 1 => by
    show sN (fun y => if a = y then v else 0) m + (if a = m then v else 0) = _
    rw [sN_ind m]
    by_cases h1 : a < m
    · rw [if_pos h1, if_neg (by omega), if_pos (by omega)]; rfl
    · rw [if_neg h1]
      by_cases h2 : a = m
      · rw [if_pos h2, if_pos (by omega)]; omega
      · rw [if_neg h2, if_neg (by omega)]
theorem sN_add {F : Nat → Nat} (a : Nat) : ∀ b, sN F (a + b) = sN F a + sN (fun j => F (a + j)) b
  | 0 => rfl
  | b + 1 => by
    show sN F (a + b) + F (a + b) = sN F a + (sN (fun j => F (a + j)) b + F (a + b))
    rw [sN_add a b]
    omega
theorem sN_const {c : Nat} : ∀ m, sN (fun _ => c) m = m * c
  | 0 => (Nat.zero_mul c).symm
  | m + 1 => by
    show sN (fun _ => c) m + c = _
    rw [sN_const m, Nat.succ_mul]
theorem sN_ge {F : Nat → Nat} {m u : Nat} (hu : u < m) : F u ≤ sN F m := by
  induction m with
  | zero => omega
  | succ m ih =>
    show F u ≤ sN F m + F m
    by_cases h : u = m
    · subst h; omega
    · have := ih (by omega); omega
theorem sN_ge2 {F : Nat → Nat} {m u w : Nat} (huw : u < w) (hw : w < m) : F u + F w ≤ sN F m := by
  induction m with
  | zero => omega
  | succ m ih =>
    show F u + F w ≤ sN F m + F m
    by_cases h : w = m
    · subst h
      have := sN_ge (F := F) huw
      omega
    · have := ih (by omega); omega
theorem sN_lo {F : Nat → Nat} {c : Nat} : ∀ m, (∀ s, s < m → c ≤ F s) → m * c ≤ sN F m
  | 0, _ => by rw [Nat.zero_mul]; exact Nat.zero_le _
  | m + 1, h => by
    have h1 := sN_lo m (fun s hs => h s (by omega))
    have h2 := h m (by omega)
    show (m + 1) * c ≤ sN F m + F m
    rw [Nat.succ_mul]
    omega
theorem sN_eq {F : Nat → Nat} {c : Nat} : ∀ m, (∀ s, s < m → c ≤ F s) → sN F m = m * c → ∀ s, s < m → F s = c
  | 0, _, _, s, hs => absurd hs (Nat.not_lt_zero s)
  | m + 1, h, e, s, hs => by
    have h1 := sN_lo m (fun s hs => h s (by omega))
    have h2 := h m (by omega)
    have e : sN F m + F m = (m + 1) * c := e
    rw [Nat.succ_mul] at e
    by_cases q : s = m
    · subst q; omega
    · exact sN_eq m (fun s hs => h s (by omega)) (by omega) s (by omega)
section MO
variable {K W : Nat} {tb : Nat → Nat}
/-- how many walks come to each node -/
def stN (K W : Nat) (tb : Nat → Nat) (c : Nat → Nat) (s y : Nat) : Nat := sN (fun u => if tb u = s ∧ u % K ^ (W - 1) = y then c (u / K) else 0) (K ^ W)
def runN (K W : Nat) (tb : Nat → Nat) (c : Nat → Nat) : List Nat → Nat → Nat
  | [] => c
  | s :: w => stN K W tb (runN K W tb c w) s
def tN (K W : Nat) (c : Nat → Nat) : Nat := sN c (K ^ (W - 1))
theorem runN_app {c : Nat → Nat} : ∀ (w z : List Nat), runN K W tb c (w ++ z) = runN K W tb (runN K W tb c z) w
  | [], _ => rfl
  | s :: w, z => by
    show stN K W tb (runN K W tb c (w ++ z)) s = stN K W tb (runN K W tb (runN K W tb c z) w) s
    rw [runN_app w z]
theorem tot_out (hK : 2 ≤ K) {c : Nat → Nat} : ∀ N, sN (fun u => c (u / K)) (N * K) = K * sN c N
  | 0 => by rw [Nat.zero_mul]; rfl
  | N + 1 => by
    show _ = K * (sN c N + c N)
    rw [Nat.succ_mul, sN_add, tot_out hK N, Nat.mul_add]
    congr 1
    rw [← sN_const (c := c N) K]
    refine sN_congr K (fun j hj => ?_)
    rw [Nat.mul_comm N K, Nat.mul_add_div (by omega), Nat.div_eq_of_lt hj, Nat.add_zero]
theorem tot_step (hR : okR K W tb) (c : Nat → Nat) : sN (fun s => tN K W (stN K W tb c s)) K = K * tN K W c := by
  have hNp := pw_pos (W := W - 1) hR.1
  unfold tN
  rw [← tot_out hR.1, ← pw_s hR.2.2.1]
  have e1 : ∀ s, sN (stN K W tb c s) (K ^ (W - 1)) = sN (fun u => if tb u = s then c (u / K) else 0) (K ^ W) := fun s => by
    show sN (fun y => sN (fun u => if tb u = s ∧ u % K ^ (W - 1) = y then c (u / K) else 0) (K ^ W)) (K ^ (W - 1)) = _
    rw [sN_swap]
    refine sN_congr _ (fun u hu => ?_)
    by_cases h : tb u = s
    · rw [if_pos h]
      have e2 : sN (fun y => if tb u = s ∧ u % K ^ (W - 1) = y then c (u / K) else 0) (K ^ (W - 1)) = sN (fun y => if u % K ^ (W - 1) = y then c (u / K) else 0) (K ^ (W - 1)) := sN_congr _ (fun y hy => by
        by_cases q : u % K ^ (W - 1) = y
        · rw [if_pos ⟨h, q⟩, if_pos q]
        · rw [if_neg (fun z => q z.2), if_neg q])
      rw [e2, sN_ind, if_pos (Nat.mod_lt _ hNp)]
    · rw [if_neg h]
      exact sN_zero _ (fun y hy => if_neg (fun z => h z.1))
  rw [sN_congr (F := fun s => sN (stN K W tb c s) (K ^ (W - 1))) K (fun s hs => e1 s), sN_swap]
  refine sN_congr _ (fun u hu => ?_)
  rw [sN_ind, if_pos (hR.2.2.2.2 u hu)]
def vw (K : Nat) (w : List Nat) : Prop := ∀ s, s ∈ w → s < K
theorem vw.nil : vw K [] := fun s h => by cases h
theorem vw.cons {s : Nat} {w : List Nat} (hs : s < K) (hw : vw K w) : vw K (s :: w) := fun t h => by
  rcases List.mem_cons.mp h with e | e
  · rw [e]; exact hs
  · exact hw t e
theorem vw.app {w z : List Nat} (hw : vw K w) (hz : vw K z) : vw K (w ++ z) := fun t h => by
  rcases List.mem_append.mp h with e | e
  · exact hw t e
  · exact hz t e
theorem least_word {F : List Nat → Nat} : ∀ m, (∃ w, vw K w ∧ F w ≤ m) → ∃ w, vw K w ∧ ∀ w', vw K w' → F w ≤ F w' := by
  intro m
  induction m with
  | zero => rintro ⟨w, h1, h2⟩; exact ⟨w, h1, fun w' _ => by omega⟩
  | succ m ih =>
    rintro ⟨w, h1, h2⟩
    by_cases q : ∃ w', vw K w' ∧ F w' ≤ m
    · exact ih q
    · refine ⟨w, h1, fun w' hw' => ?_⟩
      rcases Nat.lt_or_ge m (F w') with z | z
      · omega
      · exact absurd ⟨w', hw', z⟩ q
/-- one window on -/
theorem step_ge {c : Nat → Nat} {u : Nat} (hu : u < K ^ W) : c (u / K) ≤ stN K W tb c (tb u) (u % K ^ (W - 1)) := by
  have h := sN_ge (F := fun z => if tb z = tb u ∧ z % K ^ (W - 1) = u % K ^ (W - 1) then c (z / K) else 0) hu
  rw [if_pos ⟨rfl, rfl⟩] at h
  exact h
theorem step_ge2 {c : Nat → Nat} {u w : Nat} (huw : u ≠ w) (hu : u < K ^ W) (hw : w < K ^ W) (h1 : tb u = tb w) (h2 : u % K ^ (W - 1) = w % K ^ (W - 1)) : c (u / K) + c (w / K) ≤ stN K W tb c (tb u) (u % K ^ (W - 1)) := by
  rcases Nat.lt_or_gt_of_ne huw with q | q
  · have h := sN_ge2 (F := fun z => if tb z = tb u ∧ z % K ^ (W - 1) = u % K ^ (W - 1) then c (z / K) else 0) q hw
    rw [if_pos ⟨rfl, rfl⟩, if_pos ⟨h1.symm, h2.symm⟩] at h
    exact h
  · have h := sN_ge2 (F := fun z => if tb z = tb u ∧ z % K ^ (W - 1) = u % K ^ (W - 1) then c (z / K) else 0) q hu
    rw [if_pos ⟨h1.symm, h2.symm⟩, if_pos ⟨rfl, rfl⟩] at h
    have h' : c (w / K) + c (u / K) ≤ stN K W tb c (tb u) (u % K ^ (W - 1)) := h
    omega
/-- from every node to every node -/
theorem way (hR : okR K W tb) {y a : Nat} (hy : y < K ^ (W - 1)) (ha : a < K ^ (W - 1)) : ∀ i, i ≤ W - 1 → ∃ w, vw K w ∧ ∀ c : Nat → Nat, c y ≤ runN K W tb c w ((y * K ^ i + a / K ^ (W - 1 - i)) % K ^ (W - 1)) := by
  have hNp := pw_pos (W := W - 1) hR.1
  have hK2 := hR.1
  intro i
  induction i with
  | zero =>
    intro _
    refine ⟨[], vw.nil, fun c => ?_⟩
    rw [Nat.pow_zero, Nat.mul_one, Nat.sub_zero, Nat.div_eq_of_lt ha, Nat.add_zero, Nat.mod_eq_of_lt hy]
    exact Nat.le_refl _
  | succ i ih =>
    intro hi
    obtain ⟨w, hw, hc⟩ := ih (by omega)
    have hx : (y * K ^ i + a / K ^ (W - 1 - i)) % K ^ (W - 1) < K ^ (W - 1) := Nat.mod_lt _ hNp
    have hd : (a / K ^ (W - 1 - (i + 1))) % K < K := Nat.mod_lt _ (by omega)
    have hu := win_out hR hx hd
    have hq : a / K ^ (W - 1 - i) = a / K ^ (W - 1 - (i + 1)) / K := by
      rw [Nat.div_div_eq_div_mul, ← Nat.pow_succ]
      congr 2
      omega
    have he : ((y * K ^ i + a / K ^ (W - 1 - i)) % K ^ (W - 1) * K + (a / K ^ (W - 1 - (i + 1))) % K) % K ^ (W - 1) = (y * K ^ (i + 1) + a / K ^ (W - 1 - (i + 1))) % K ^ (W - 1) := by
      have e1 : y * K ^ (i + 1) + a / K ^ (W - 1 - (i + 1)) = (y * K ^ i + a / K ^ (W - 1 - i)) * K + (a / K ^ (W - 1 - (i + 1))) % K := by
        rw [Nat.add_mul, hq, Nat.pow_succ, ← Nat.mul_assoc, Nat.add_assoc, Nat.div_add_mod']
      rw [e1, Nat.add_mod, Nat.mul_mod, Nat.mod_mod, ← Nat.mul_mod, ← Nat.add_mod]
    refine ⟨tb ((y * K ^ i + a / K ^ (W - 1 - i)) % K ^ (W - 1) * K + (a / K ^ (W - 1 - (i + 1))) % K) :: w, vw.cons (hR.2.2.2.2 _ hu.1) hw, fun c => ?_⟩
    have h1 := step_ge (K := K) (W := W) (tb := tb) (c := runN K W tb c w) hu.1
    rw [hu.2, he] at h1
    exact Nat.le_trans (hc c) h1
theorem way' (hR : okR K W tb) {y a : Nat} (hy : y < K ^ (W - 1)) (ha : a < K ^ (W - 1)) : ∃ w, vw K w ∧ ∀ c : Nat → Nat, c y ≤ runN K W tb c w a := by
  obtain ⟨w, h1, h2⟩ := way hR hy ha (W - 1) (Nat.le_refl _)
  refine ⟨w, h1, fun c => ?_⟩
  have h := h2 c
  rw [Nat.sub_self, Nat.pow_zero, Nat.div_one, Nat.mul_comm, Nat.mul_add_mod, Nat.mod_eq_of_lt ha] at h
  exact h
theorem Mr_run (hR : okR K W tb) {x y : Nat} (h : Mr K W tb x y) : ∃ a, a < K ^ (W - 1) ∧ ∃ w, vw K w ∧ ∀ c : Nat → Nat, c a ≤ runN K W tb c w x ∧ c a ≤ runN K W tb c w y := by
  refine h (fun x y => ∃ a, a < K ^ (W - 1) ∧ ∃ w, vw K w ∧ ∀ c : Nat → Nat, c a ≤ runN K W tb c w x ∧ c a ≤ runN K W tb c w y) ?_ ?_
  · rintro a x y ⟨u, w, h1, h2, h3, h4, h5, h6, h7⟩ _
    refine ⟨a, by rw [← h3]; exact div_lt' hR h1, [tb u], vw.cons (hR.2.2.2.2 u h1) vw.nil, fun c => ?_⟩
    have g1 := step_ge (K := K) (W := W) (tb := tb) (c := c) h1
    have g2 := step_ge (K := K) (W := W) (tb := tb) (c := c) h2
    rw [h3, h6] at g1
    rw [h4, h7, ← h5] at g2
    exact ⟨g1, g2⟩
  · rintro x y x' y' ⟨a, ha, z, hz, hc⟩ ⟨u, w, h1, h2, h3, h4, h5, h6, h7⟩ _
    refine ⟨a, ha, tb u :: z, vw.cons (hR.2.2.2.2 u h1) hz, fun c => ?_⟩
    have g1 := step_ge (K := K) (W := W) (tb := tb) (c := runN K W tb c z) h1
    have g2 := step_ge (K := K) (W := W) (tb := tb) (c := runN K W tb c z) h2
    rw [h3, h6] at g1
    rw [h4, h7, ← h5] at g2
    exact ⟨Nat.le_trans (hc c).1 g1, Nat.le_trans (hc c).2 g2⟩
theorem twice (hR : okR K W tb) (hD : dD K W tb) : ∃ a, a < K ^ (W - 1) ∧ ∃ w z, vw K w ∧ z < K ^ (W - 1) ∧ ∀ c : Nat → Nat, 2 * c a ≤ runN K W tb c w z := by
  have hNp := pw_pos (W := W - 1) hR.1
  by_cases hW : 2 ≤ W
  · obtain ⟨x, y, hM, z, u, w, h1, h2, h3, h4, h5, h6, h7⟩ := (dD_Mr hR.1 hW).mp hD
    obtain ⟨a, ha, v, hv, hc⟩ := Mr_run hR hM
    have hne := (Mr_lt hR hM).2.2
    refine ⟨a, ha, tb u :: v, z, vw.cons (hR.2.2.2.2 u h1) hv, by rw [← h6]; exact Nat.mod_lt _ hNp, fun c => ?_⟩
    have g := step_ge2 (K := K) (W := W) (tb := tb) (c := runN K W tb c v) (u := u) (w := w) (fun e => hne (by rw [← h3, ← h4, e])) h1 h2 h5 (h6.trans h7.symm)
    rw [h3, h4, h6] at g
    have := hc c
    show 2 * c a ≤ stN K W tb (runN K W tb c v) (tb u) z
    omega
  · have e : W = 1 := by have := hR.2.2.1; omega
    subst e
    obtain ⟨u, w, h1, h2, h3⟩ := (dD_1 hR).mp hD
    have hu : u < K ^ 1 := by rw [Nat.pow_one]; omega
    have hw : w < K ^ 1 := by rw [Nat.pow_one]; omega
    have em : ∀ z, z % K ^ (1 - 1) = 0 := fun z => by
      show z % K ^ 0 = 0
      rw [Nat.pow_zero, Nat.mod_one]
    refine ⟨0, hNp, [tb u], 0, vw.cons (hR.2.2.2.2 u hu) vw.nil, hNp, fun c => ?_⟩
    have g := step_ge2 (K := K) (W := 1) (tb := tb) (c := c) (u := u) (w := w) (by omega) hu hw h3 ((em u).trans (em w).symm)
    rw [em, Nat.div_eq_of_lt (show u < K by omega), Nat.div_eq_of_lt h2] at g
    show 2 * c 0 ≤ stN K 1 tb c (tb u) 0
    omega
/-- Moore's half of the Garden of Eden -/
theorem moore (hR : okR K W tb) (hD : dD K W tb) : ∃ w, vw K w ∧ ∀ y, y < K ^ (W - 1) → runN K W tb (fun _ => 1) w y = 0 := by
  apply Classical.byContradiction
  intro hno
  have hpos : ∀ w, vw K w → ∃ y, y < K ^ (W - 1) ∧ 1 ≤ runN K W tb (fun _ => 1) w y := by
    intro w hw
    apply Classical.byContradiction
    intro h
    refine hno ⟨w, hw, fun y hy => ?_⟩
    rcases Nat.eq_zero_or_pos (runN K W tb (fun _ => 1) w y) with q | q
    · exact q
    · exact absurd ⟨y, hy, q⟩ h
  obtain ⟨w0, hw0, hmin⟩ := least_word (K := K) (F := fun w => tN K W (runN K W tb (fun _ => 1) w)) _ ⟨[], vw.nil, Nat.le_refl _⟩
  have same : ∀ v, vw K v → tN K W (runN K W tb (fun _ => 1) (v ++ w0)) = tN K W (runN K W tb (fun _ => 1) w0) := by
    intro v
    induction v with
    | nil => intro _; rfl
    | cons s v ih =>
      intro hv
      have hv2 : vw K v := fun t h => hv t (List.mem_cons_of_mem _ h)
      have e := tot_step hR (runN K W tb (fun _ => 1) (v ++ w0))
      rw [ih hv2] at e
      exact sN_eq K (fun t ht => hmin (t :: (v ++ w0)) (vw.cons ht (hv2.app hw0))) e s (hv s List.mem_cons_self)
  obtain ⟨y0, hy0, h1⟩ := hpos w0 hw0
  obtain ⟨a, ha, p, z, hp, hz, h2⟩ := twice hR hD
  have grow : ∀ j, ∃ v, vw K v ∧ ∃ y, y < K ^ (W - 1) ∧ 2 ^ j ≤ runN K W tb (fun _ => 1) (v ++ w0) y := by
    intro j
    induction j with
    | zero => exact ⟨[], vw.nil, y0, hy0, h1⟩
    | succ j ih =>
      obtain ⟨v, hv, y, hy, hc⟩ := ih
      obtain ⟨q, hq, hcq⟩ := way' hR hy ha
      refine ⟨p ++ (q ++ v), hp.app (hq.app hv), z, hz, ?_⟩
      rw [List.append_assoc, List.append_assoc, runN_app, runN_app]
      have e1 := hcq (runN K W tb (fun _ => 1) (v ++ w0))
      have e2 := h2 (runN K W tb (runN K W tb (fun _ => 1) (v ++ w0)) q)
      rw [Nat.pow_succ]
      omega
  obtain ⟨v, hv, y, hy, hc⟩ := grow (tN K W (runN K W tb (fun _ => 1) w0))
  have e1 := same v hv
  have e2 : runN K W tb (fun _ => 1) (v ++ w0) y ≤ tN K W (runN K W tb (fun _ => 1) (v ++ w0)) := sN_ge hy
  have e3 := Nat.lt_two_pow_self (n := tN K W (runN K W tb (fun _ => 1) w0))
  omega
end MO
