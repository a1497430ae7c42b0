/-! Expressions: what they are read by, in numbers alone. A frame is ((kind, condition, first), what waits at each level, whether a turn waits, the last value); values are taken for all windows at once. -/
abbrev Vl := Nat → Nat
abbrev Fm := (Nat × Vl × Vl) × (Nat → Option (Vl × Nat)) × Bool × Vl
def lv (c : Nat) : Nat := if c = 124 then 0 else if c = 38 then 1 else if c = 61 ∨ c = 60 then 2 else if c = 43 ∨ c = 45 then 3 else if c = 42 then 4 else 5
def tg (K c a b : Nat) : Nat := if c = 124 then (if b < a then a else b) else if c = 38 then (if a < b then a else b) else if c = 61 then (if a = b then 1 else 0) else if c = 60 then (if a < b then 1 else 0) else if c = 43 then (a + b) % K else if c = 45 then (a + K - b) % K else a * b % K
theorem tg_lt {K c a b : Nat} (hK : 2 ≤ K) (ha : a < K) (hb : b < K) : tg K c a b < K := by
  unfold tg
  repeat' split
  all_goals first | assumption | omega | exact Nat.mod_lt _ (by omega)
def vU (K : Nat) (f : Fm) : Nat → Vl
  | 0 => f.2.2.2
  | d + 1 => match f.2.1 (4 - d) with
    | none => vU K f d
    | some (a, c) => fun n => tg K c (a n) (vU K f d n)
def vL (K : Nat) (f : Fm) (L : Nat) : Vl := vU K f (5 - L)
theorem vL_5 {K : Nat} {f : Fm} : vL K f 5 = f.2.2.2 := rfl
theorem vL_none {K : Nat} {f : Fm} {L : Nat} (hL : L < 5) (h : f.2.1 L = none) : vL K f L = vL K f (L + 1) := by
  unfold vL
  rw [show 5 - L = (5 - (L + 1)) + 1 by omega]
  show (match f.2.1 (4 - (5 - (L + 1))) with | none => vU K f (5 - (L + 1)) | some (a, c) => fun n => tg K c (a n) (vU K f (5 - (L + 1)) n)) = _
  rw [show 4 - (5 - (L + 1)) = L by omega, h]
theorem vL_some {K : Nat} {f : Fm} {L : Nat} {a : Vl} {c : Nat} (hL : L < 5) (h : f.2.1 L = some (a, c)) : vL K f L = fun n => tg K c (a n) (vL K f (L + 1) n) := by
  unfold vL
  rw [show 5 - L = (5 - (L + 1)) + 1 by omega]
  show (match f.2.1 (4 - (5 - (L + 1))) with | none => vU K f (5 - (L + 1)) | some (a, c) => fun n => tg K c (a n) (vU K f (5 - (L + 1)) n)) = _
  rw [show 4 - (5 - (L + 1)) = L by omega, h]
def frs (kind : Nat) (cond first : Vl) : Fm := ((kind, cond, first), fun _ => none, false, fun _ => 0)
def opd (K : Nat) (x : Vl) (f : Fm) : Fm := (f.1, f.2.1, false, fun n => if f.2.2.1 = true then K - 1 - x n else x n)
def oper (K c L : Nat) (f : Fm) : Fm := (f.1, fun j => if j = L then some (vL K f L, c) else if L < j then none else f.2.1 j, false, f.2.2.2)
def endC : List Fm → Vl → Vl × Nat × Vl × List Fm
  | [], v => (v, 0, v, [])
  | f :: r, v => if f.1.1 = 3 then endC r (fun n => if f.1.2.1 n = 0 then v n else f.1.2.2 n) else (v, f.1.1, f.1.2.1, r)
theorem endC_kind {f f' : Fm} {r : List Fm} {v : Vl} (h : f'.1 = f.1) : endC (f' :: r) v = endC (f :: r) v := by
  show (if f'.1.1 = 3 then endC r (fun n => if f'.1.2.1 n = 0 then v n else f'.1.2.2 n) else (v, f'.1.1, f'.1.2.1, r)) = (if f.1.1 = 3 then endC r (fun n => if f.1.2.1 n = 0 then v n else f.1.2.2 n) else (v, f.1.1, f.1.2.1, r))
  rw [h]
def bgn (K W c : Nat) (f : Fm) (r : List Fm) : Option (Bool × List Fm) :=
  if 48 ≤ c ∧ c ≤ 57 then some (false, opd K (fun _ => (c - 48) % K) f :: r)
  else if 97 ≤ c ∧ c < 97 + W then some (false, opd K (fun n => n / K ^ (W - 1 - (c - 97)) % K) f :: r)
  else if c = 40 then (if r.length < 4 then some (true, frs 1 (fun _ => 0) (fun _ => 0) :: f :: r) else none)
  else if c = 33 then some (true, (f.1, f.2.1, !f.2.2.1, f.2.2.2) :: r)
  else none
def gon (K c : Nat) (f : Fm) (r : List Fm) : Option (Bool × List Fm) :=
  if lv c < 5 then (if lv c = 2 ∧ f.2.1 2 ≠ none then none else some (true, oper K c (lv c) f :: r))
  else if c = 63 then (if r.length < 4 then some (true, frs 2 (vL K f 0) (fun _ => 0) :: (f.1, (fun _ => none), false, f.2.2.2) :: r) else none)
  else if c = 58 then (if (endC (f :: r) (vL K f 0)).2.1 = 2 then some (true, frs 3 (endC (f :: r) (vL K f 0)).2.2.1 (endC (f :: r) (vL K f 0)).1 :: (endC (f :: r) (vL K f 0)).2.2.2) else none)
  else if c = 41 then (if (endC (f :: r) (vL K f 0)).2.1 = 1 then (match (endC (f :: r) (vL K f 0)).2.2.2 with
    | [] => none
    | g :: r' => some (false, opd K (endC (f :: r) (vL K f 0)).1 g :: r')) else none)
  else none
def mst (K W c : Nat) : Bool → List Fm → Option (Bool × List Fm)
  | _, [] => none
  | true, f :: r => bgn K W c f r
  | false, f :: r => gon K c f r
def fin (K sz : Nat) : Bool → List Fm → Option Nat × Vl
  | _, [] => (some sz, fun _ => 0)
  | true, _ :: _ => (some sz, fun _ => 0)
  | false, f :: r => (if (endC (f :: r) (vL K f 0)).2.2.2.length = 0 then none else some sz, (endC (f :: r) (vL K f 0)).1)
def rn (K W : Nat) (tx : Nat → Nat) (sz : Nat) : Nat → Bool → List Fm → Nat → Option Nat × Vl
  | 0, d, fs, _ => fin K sz d fs
  | m + 1, d, fs, i => match mst K W (tx i) d fs with
    | none => (some i, fun _ => 0)
    | some (d', fs') => rn K W tx sz m d' fs' (i + 1)
def RN (K W : Nat) (tx : Nat → Nat) (sz : Nat) (d : Bool) (fs : List Fm) (i : Nat) : Option Nat × Vl := rn K W tx sz (sz - i) d fs i
theorem RN_end {K W sz i : Nat} {tx : Nat → Nat} {d : Bool} {fs : List Fm} (h : sz ≤ i) : RN K W tx sz d fs i = fin K sz d fs := by
  unfold RN
  rw [show sz - i = 0 by omega]; rfl
theorem RN_none {K W sz i : Nat} {tx : Nat → Nat} {d : Bool} {fs : List Fm} (h : i < sz) (hs : mst K W (tx i) d fs = none) : RN K W tx sz d fs i = (some i, fun _ => 0) := by
  unfold RN
  rw [show sz - i = (sz - (i + 1)) + 1 by omega]
  show (match mst K W (tx i) d fs with | none => ((some i, fun _ => 0) : Option Nat × Vl) | some (d', fs') => rn K W tx sz (sz - (i + 1)) d' fs' (i + 1)) = _
  rw [hs]
theorem RN_some {K W sz i : Nat} {tx : Nat → Nat} {d d' : Bool} {fs fs' : List Fm} (h : i < sz) (hs : mst K W (tx i) d fs = some (d', fs')) : RN K W tx sz d fs i = RN K W tx sz d' fs' (i + 1) := by
  unfold RN
  rw [show sz - i = (sz - (i + 1)) + 1 by omega]
  show (match mst K W (tx i) d fs with | none => ((some i, fun _ => 0) : Option Nat × Vl) | some (d', fs') => rn K W tx sz (sz - (i + 1)) d' fs' (i + 1)) = _
  rw [hs]
theorem lv_63 : lv 63 = 5 := by decide
theorem lv_58 : lv 58 = 5 := by decide
theorem lv_41 : lv 41 = 5 := by decide
/-- nothing but a colon or a bracket that closes can follow -/
def stopd (tx : Nat → Nat) (sz L : Nat) (f : Fm) (q : Nat) : Prop := q < sz → (lv (tx q) < L ∨ lv (tx q) = 5 ∨ (lv (tx q) = 2 ∧ f.2.1 2 ≠ none))
theorem stop_none {K W sz q : Nat} {tx : Nat → Nat} {f : Fm} {r : List Fm} (h : stopd tx sz 0 f q) (hq : q < sz) (h63 : tx q ≠ 63) (h58 : tx q = 58 → (endC (f :: r) (vL K f 0)).2.1 ≠ 2) (h41 : tx q = 41 → (endC (f :: r) (vL K f 0)).2.1 ≠ 1) : mst K W (tx q) false (f :: r) = none := by
  show gon K (tx q) f r = none
  unfold gon
  rcases h hq with h | h | ⟨h, h2⟩
  · omega
  · rw [if_neg (by omega), if_neg h63]
    by_cases e : tx q = 58
    · rw [if_pos e, if_neg (h58 e)]
    · rw [if_neg e]
      by_cases e2 : tx q = 41
      · rw [if_pos e2, if_neg (h41 e2)]
      · rw [if_neg e2]
  · rw [if_pos (by omega), if_pos ⟨h, h2⟩]
/-- within a bracket, or before a colon, the end of all cannot be right -/
theorem fin_some {K sz : Nat} {f : Fm} {r : List Fm} (h : (endC (f :: r) (vL K f 0)).2.2.2.length ≠ 0) : (fin K sz false (f :: r)).1 = some sz := by
  show (if (endC (f :: r) (vL K f 0)).2.2.2.length = 0 then none else some sz) = _
  rw [if_neg h]
