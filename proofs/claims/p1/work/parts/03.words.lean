/-! names, words and layouts, written by program out of the claim (wip/whole/mkall.py) -/
def TX0 : u_T := fun k => match k with
  | 0 => ("LineRules", "text", "LLineRules$Text;", true)
  | 1 => ("LineRules", "current", "LLineRules$Rule;", true)
  | 2 => ("LineRules", "circle", "LLineRules$Ring;", true)
  | 3 => ("LineRules", "pairs", "LLineRules$Pairs;", true)
  | 4 => ("LineRules", "reverse", "LLineRules$Inverse;", true)
  | 5 => ("LineRules", "weights", "LLineRules$Weights;", true)
  | 6 => ("LineRules", "missing", "LLineRules$Orphan;", true)
  | _ => ("LineRules", "past", "LLineRules$Past;", true)
def tyX0 : Nat → FieldType := fun k => match k with
  | 0 => (.object "LineRules$Text")
  | 1 => (.object "LineRules$Rule")
  | 2 => (.object "LineRules$Ring")
  | 3 => (.object "LineRules$Pairs")
  | 4 => (.object "LineRules$Inverse")
  | 5 => (.object "LineRules$Weights")
  | 6 => (.object "LineRules$Orphan")
  | _ => (.object "LineRules$Past")
theorem nmX0 : ∀ a, a < 8 → ∀ b, b < 8 → a ≠ b → (TX0 a).2.1 ≠ (TX0 b).2.1 := by decide +kernel
theorem tyX0_ok : ∀ k, k < 8 → parseFieldDescriptor (TX0 k).2.2.1 = some (tyX0 k) := by decide +kernel
def TX1 : u_T := fun k => match k with
  | 0 => ("LineRules$Text", "characters", "[C", true)
  | 1 => ("LineRules$Text", "letters", "[I", true)
  | 2 => ("LineRules$Text", "length", "I", false)
  | 3 => ("LineRules$Text", "states", "I", false)
  | 4 => ("LineRules$Text", "width", "I", false)
  | 5 => ("LineRules$Text", "kind", "C", false)
  | 6 => ("LineRules$Text", "place", "I", false)
  | 7 => ("LineRules$Text", "open", "I", false)
  | _ => ("LineRules$Text", "faulty", "Z", false)
def tyX1 : Nat → FieldType := fun k => match k with
  | 0 => (.array .char)
  | 1 => (.array .int)
  | 2 => .int
  | 3 => .int
  | 4 => .int
  | 5 => .char
  | 6 => .int
  | 7 => .int
  | _ => .boolean
theorem nmX1 : ∀ a, a < 9 → ∀ b, b < 9 → a ≠ b → (TX1 a).2.1 ≠ (TX1 b).2.1 := by decide +kernel
theorem tyX1_ok : ∀ k, k < 9 → parseFieldDescriptor (TX1 k).2.2.1 = some (tyX1 k) := by decide +kernel
def TX2 : u_T := fun k => match k with
  | 0 => ("LineRules$Rule", "table", "[I", true)
  | 1 => ("LineRules$Rule", "followers", "[J", true)
  | 2 => ("LineRules$Rule", "starts", "[I", true)
  | 3 => ("LineRules$Rule", "ends", "[I", true)
  | 4 => ("LineRules$Rule", "sorted", "[I", true)
  | 5 => ("LineRules$Rule", "present", "Z", false)
  | 6 => ("LineRules$Rule", "states", "I", false)
  | 7 => ("LineRules$Rule", "width", "I", false)
  | 8 => ("LineRules$Rule", "windows", "I", false)
  | _ => ("LineRules$Rule", "nodes", "I", false)
def tyX2 : Nat → FieldType := fun k => match k with
  | 0 => (.array .int)
  | 1 => (.array .long)
  | 2 => (.array .int)
  | 3 => (.array .int)
  | 4 => (.array .int)
  | 5 => .boolean
  | 6 => .int
  | 7 => .int
  | 8 => .int
  | _ => .int
theorem nmX2 : ∀ a, a < 10 → ∀ b, b < 10 → a ≠ b → (TX2 a).2.1 ≠ (TX2 b).2.1 := by decide +kernel
theorem tyX2_ok : ∀ k, k < 10 → parseFieldDescriptor (TX2 k).2.2.1 = some (tyX2 k) := by decide +kernel
def TX3 : u_T := fun k => match k with
  | 0 => ("LineRules$Ring", "row", "[I", true)
  | 1 => ("LineRules$Ring", "count", "I", false)
  | 2 => ("LineRules$Ring", "rule", "LLineRules$Rule;", true)
  | 3 => ("LineRules$Ring", "made", "[I", true)
  | _ => ("LineRules$Ring", "old", "[I", true)
def tyX3 : Nat → FieldType := fun k => match k with
  | 0 => (.array .int)
  | 1 => .int
  | 2 => (.object "LineRules$Rule")
  | 3 => (.array .int)
  | _ => (.array .int)
theorem nmX3 : ∀ a, a < 5 → ∀ b, b < 5 → a ≠ b → (TX3 a).2.1 ≠ (TX3 b).2.1 := by decide +kernel
theorem tyX3_ok : ∀ k, k < 5 → parseFieldDescriptor (TX3 k).2.2.1 = some (tyX3 k) := by decide +kernel
def TX4 : u_T := fun k => match k with
  | 0 => ("LineRules$Pairs", "rule", "LLineRules$Rule;", true)
  | 1 => ("LineRules$Pairs", "met", "[J", true)
  | 2 => ("LineRules$Pairs", "done", "[J", true)
  | 3 => ("LineRules$Pairs", "missKnown", "Z", false)
  | 4 => ("LineRules$Pairs", "surjective", "Z", false)
  | 5 => ("LineRules$Pairs", "lossKnown", "Z", false)
  | _ => ("LineRules$Pairs", "injective", "Z", false)
def tyX4 : Nat → FieldType := fun k => match k with
  | 0 => (.object "LineRules$Rule")
  | 1 => (.array .long)
  | 2 => (.array .long)
  | 3 => .boolean
  | 4 => .boolean
  | 5 => .boolean
  | _ => .boolean
theorem nmX4 : ∀ a, a < 7 → ∀ b, b < 7 → a ≠ b → (TX4 a).2.1 ≠ (TX4 b).2.1 := by decide +kernel
theorem tyX4_ok : ∀ k, k < 7 → parseFieldDescriptor (TX4 k).2.2.1 = some (tyX4 k) := by decide +kernel
def TX5 : u_T := fun k => match k with
  | 0 => ("LineRules$Inverse", "rule", "LLineRules$Rule;", true)
  | 1 => ("LineRules$Inverse", "pairs", "LLineRules$Pairs;", true)
  | 2 => ("LineRules$Inverse", "origin", "[I", true)
  | 3 => ("LineRules$Inverse", "known", "Z", false)
  | 4 => ("LineRules$Inverse", "foundWidth", "I", false)
  | _ => ("LineRules$Inverse", "foundPlace", "I", false)
def tyX5 : Nat → FieldType := fun k => match k with
  | 0 => (.object "LineRules$Rule")
  | 1 => (.object "LineRules$Pairs")
  | 2 => (.array .int)
  | 3 => .boolean
  | 4 => .int
  | _ => .int
theorem nmX5 : ∀ a, a < 6 → ∀ b, b < 6 → a ≠ b → (TX5 a).2.1 ≠ (TX5 b).2.1 := by decide +kernel
theorem tyX5_ok : ∀ k, k < 6 → parseFieldDescriptor (TX5 k).2.2.1 = some (tyX5 k) := by decide +kernel
def TX6 : u_T := fun k => match k with
  | 0 => ("LineRules$Weights", "rule", "LLineRules$Rule;", true)
  | 1 => ("LineRules$Weights", "ties", "[[J", true)
  | 2 => ("LineRules$Weights", "basis", "[[J", true)
  | 3 => ("LineRules$Weights", "equation", "[J", true)
  | 4 => ("LineRules$Weights", "known", "Z", false)
  | _ => ("LineRules$Weights", "found", "I", false)
def tyX6 : Nat → FieldType := fun k => match k with
  | 0 => (.object "LineRules$Rule")
  | 1 => (.array (.array .long))
  | 2 => (.array (.array .long))
  | 3 => (.array .long)
  | 4 => .boolean
  | _ => .int
theorem nmX6 : ∀ a, a < 6 → ∀ b, b < 6 → a ≠ b → (TX6 a).2.1 ≠ (TX6 b).2.1 := by decide +kernel
theorem tyX6_ok : ∀ k, k < 6 → parseFieldDescriptor (TX6 k).2.2.1 = some (tyX6 k) := by decide +kernel
def TX7 : u_T := fun k => match k with
  | 0 => ("LineRules$Orphan", "rule", "LLineRules$Rule;", true)
  | 1 => ("LineRules$Orphan", "pairs", "LLineRules$Pairs;", true)
  | 2 => ("LineRules$Orphan", "sets", "[J", true)
  | 3 => ("LineRules$Orphan", "source", "[I", true)
  | 4 => ("LineRules$Orphan", "reason", "[I", true)
  | 5 => ("LineRules$Orphan", "ends", "[J", true)
  | 6 => ("LineRules$Orphan", "row", "[I", true)
  | 7 => ("LineRules$Orphan", "met", "I", false)
  | 8 => ("LineRules$Orphan", "known", "Z", false)
  | _ => ("LineRules$Orphan", "found", "I", false)
def tyX7 : Nat → FieldType := fun k => match k with
  | 0 => (.object "LineRules$Rule")
  | 1 => (.object "LineRules$Pairs")
  | 2 => (.array .long)
  | 3 => (.array .int)
  | 4 => (.array .int)
  | 5 => (.array .long)
  | 6 => (.array .int)
  | 7 => .int
  | 8 => .boolean
  | _ => .int
theorem nmX7 : ∀ a, a < 10 → ∀ b, b < 10 → a ≠ b → (TX7 a).2.1 ≠ (TX7 b).2.1 := by decide +kernel
theorem tyX7_ok : ∀ k, k < 10 → parseFieldDescriptor (TX7 k).2.2.1 = some (tyX7 k) := by decide +kernel
def TX8 : u_T := fun k => match k with
  | 0 => ("LineRules$Past", "rule", "LLineRules$Rule;", true)
  | 1 => ("LineRules$Past", "ring", "LLineRules$Ring;", true)
  | 2 => ("LineRules$Past", "open", "[J", true)
  | 3 => ("LineRules$Past", "least", "[I", true)
  | 4 => ("LineRules$Past", "counts", "[J", false)
  | 5 => ("LineRules$Past", "later", "[J", false)
  | 6 => ("LineRules$Past", "known", "Z", false)
  | 7 => ("LineRules$Past", "found", "Z", false)
  | 8 => ("LineRules$Past", "counted", "Z", false)
  | _ => ("LineRules$Past", "total", "J", false)
def tyX8 : Nat → FieldType := fun k => match k with
  | 0 => (.object "LineRules$Rule")
  | 1 => (.object "LineRules$Ring")
  | 2 => (.array .long)
  | 3 => (.array .int)
  | 4 => (.array .long)
  | 5 => (.array .long)
  | 6 => .boolean
  | 7 => .boolean
  | 8 => .boolean
  | _ => .long
theorem nmX8 : ∀ a, a < 10 → ∀ b, b < 10 → a ≠ b → (TX8 a).2.1 ≠ (TX8 b).2.1 := by decide +kernel
theorem tyX8_ok : ∀ k, k < 10 → parseFieldDescriptor (TX8 k).2.2.1 = some (tyX8 k) := by decide +kernel
def TX9 : u_T := fun k => match k with
  | 0 => ("LineRulesModel", "size", "I", false)
  | 1 => ("LineRulesModel", "text", "[I", true)
  | 2 => ("LineRulesModel", "k", "I", false)
  | 3 => ("LineRulesModel", "w", "I", false)
  | 4 => ("LineRulesModel", "blocks", "I", false)
  | 5 => ("LineRulesModel", "all", "I", false)
  | 6 => ("LineRulesModel", "table", "[I", true)
  | 7 => ("LineRulesModel", "cells", "I", false)
  | 8 => ("LineRulesModel", "ring", "[I", true)
  | 9 => ("LineRulesModel", "turned", "[I", true)
  | 10 => ("LineRulesModel", "readK", "I", false)
  | 11 => ("LineRulesModel", "readW", "I", false)
  | 12 => ("LineRulesModel", "fault", "I", false)
  | 13 => ("LineRulesModel", "level", "I", false)
  | 14 => ("LineRulesModel", "kinds", "[I", true)
  | 15 => ("LineRulesModel", "conditions", "[I", true)
  | 16 => ("LineRulesModel", "firsts", "[I", true)
  | 17 => ("LineRulesModel", "nots", "[I", true)
  | 18 => ("LineRulesModel", "products", "[I", true)
  | 19 => ("LineRulesModel", "hasProduct", "[Z", true)
  | 20 => ("LineRulesModel", "sums", "[I", true)
  | 21 => ("LineRulesModel", "sumBy", "[I", true)
  | 22 => ("LineRulesModel", "lefts", "[I", true)
  | 23 => ("LineRulesModel", "compares", "[I", true)
  | 24 => ("LineRulesModel", "boths", "[I", true)
  | 25 => ("LineRulesModel", "hasBoth", "[Z", true)
  | 26 => ("LineRulesModel", "eithers", "[I", true)
  | 27 => ("LineRulesModel", "hasEither", "[Z", true)
  | 28 => ("LineRulesModel", "isSurjective", "I", false)
  | 29 => ("LineRulesModel", "isInjective", "I", false)
  | 30 => ("LineRulesModel", "marked", "[Z", true)
  | 31 => ("LineRulesModel", "knowsInverse", "Z", false)
  | 32 => ("LineRulesModel", "inverseWidth", "I", false)
  | 33 => ("LineRulesModel", "inversePlace", "I", false)
  | 34 => ("LineRulesModel", "undone", "[I", true)
  | 35 => ("LineRulesModel", "knowsWeights", "Z", false)
  | 36 => ("LineRulesModel", "weights", "I", false)
  | 37 => ("LineRulesModel", "weightAt", "[I", true)
  | 38 => ("LineRulesModel", "hasRow", "[Z", true)
  | 39 => ("LineRulesModel", "rows", "[J", true)
  | 40 => ("LineRulesModel", "row", "[J", true)
  | 41 => ("LineRulesModel", "knowsOrphan", "Z", false)
  | 42 => ("LineRulesModel", "orphanSize", "I", false)
  | 43 => ("LineRulesModel", "orphanCells", "[I", true)
  | 44 => ("LineRulesModel", "sets", "[J", true)
  | 45 => ("LineRulesModel", "setFrom", "[I", true)
  | 46 => ("LineRulesModel", "setBy", "[I", true)
  | 47 => ("LineRulesModel", "knowsBefore", "Z", false)
  | 48 => ("LineRulesModel", "hasBefore", "Z", false)
  | 49 => ("LineRulesModel", "rings", "J", false)
  | 50 => ("LineRulesModel", "least", "[I", true)
  | 51 => ("LineRulesModel", "counts", "[J", true)
  | 52 => ("LineRulesModel", "later", "[J", true)
  | _ => ("LineRulesModel", "can", "[J", true)
def tyX9 : Nat → FieldType := fun k => match k with
  | 0 => .int
  | 1 => (.array .int)
  | 2 => .int
  | 3 => .int
  | 4 => .int
  | 5 => .int
  | 6 => (.array .int)
  | 7 => .int
  | 8 => (.array .int)
  | 9 => (.array .int)
  | 10 => .int
  | 11 => .int
  | 12 => .int
  | 13 => .int
  | 14 => (.array .int)
  | 15 => (.array .int)
  | 16 => (.array .int)
  | 17 => (.array .int)
  | 18 => (.array .int)
  | 19 => (.array .boolean)
  | 20 => (.array .int)
  | 21 => (.array .int)
  | 22 => (.array .int)
  | 23 => (.array .int)
  | 24 => (.array .int)
  | 25 => (.array .boolean)
  | 26 => (.array .int)
  | 27 => (.array .boolean)
  | 28 => .int
  | 29 => .int
  | 30 => (.array .boolean)
  | 31 => .boolean
  | 32 => .int
  | 33 => .int
  | 34 => (.array .int)
  | 35 => .boolean
  | 36 => .int
  | 37 => (.array .int)
  | 38 => (.array .boolean)
  | 39 => (.array .long)
  | 40 => (.array .long)
  | 41 => .boolean
  | 42 => .int
  | 43 => (.array .int)
  | 44 => (.array .long)
  | 45 => (.array .int)
  | 46 => (.array .int)
  | 47 => .boolean
  | 48 => .boolean
  | 49 => .long
  | 50 => (.array .int)
  | 51 => (.array .long)
  | 52 => (.array .long)
  | _ => (.array .long)
theorem nmX9 : ∀ a, a < 54 → ∀ b, b < 54 → a ≠ b → (TX9 a).2.1 ≠ (TX9 b).2.1 := by decide +kernel
theorem tyX9_ok : ∀ k, k < 54 → parseFieldDescriptor (TX9 k).2.2.1 = some (tyX9 k) := by decide +kernel
abbrev vwCl : List vw_C := [("LineRules", TX0, 8), ("LineRules$Text", TX1, 9), ("LineRules$Rule", TX2, 10), ("LineRules$Ring", TX3, 5), ("LineRules$Pairs", TX4, 7), ("LineRules$Inverse", TX5, 6), ("LineRules$Weights", TX6, 6), ("LineRules$Orphan", TX7, 10), ("LineRules$Past", TX8, 10), ("LineRulesModel", TX9, 54)]
def gw : List Cond := lw_tbl.filter goodWord
theorem gw_good : ∀ w ∈ gw, (w.onTables && w.keeps) = true ∨ ∃ ty, w = .arrayClass ty := fun w h => good_of_word (List.mem_filter.mp h).2
theorem gw_lw : ∀ w ∈ gw, w ∈ lw_tbl := fun w h => (List.mem_filter.mp h).1
theorem gw_of {w : Cond} (h : w ∈ tables_1) (hg : goodWord w = true) : w ∈ gw := List.mem_filter.mpr ⟨List.mem_append_right _ h, hg⟩
theorem gw_t1 {w : Cond} (h : w ∈ tables_1_1) (hg : goodWord w = true) : w ∈ gw := gw_of (show w ∈ tables_1 from (List.mem_append_left _ h)) hg
theorem gw_t2 {w : Cond} (h : w ∈ tables_1_2) (hg : goodWord w = true) : w ∈ gw := gw_of (show w ∈ tables_1 from (List.mem_append_right _ (List.mem_append_left _ h))) hg
theorem gw_t3 {w : Cond} (h : w ∈ tables_1_3) (hg : goodWord w = true) : w ∈ gw := gw_of (show w ∈ tables_1 from (List.mem_append_right _ (List.mem_append_right _ (List.mem_append_left _ h)))) hg
theorem gw_t4 {w : Cond} (h : w ∈ tables_1_4) (hg : goodWord w = true) : w ∈ gw := gw_of (show w ∈ tables_1 from (List.mem_append_right _ (List.mem_append_right _ (List.mem_append_right _ (List.mem_append_left _ h))))) hg
theorem gw_t5 {w : Cond} (h : w ∈ tables_1_5) (hg : goodWord w = true) : w ∈ gw := gw_of (show w ∈ tables_1 from (List.mem_append_right _ (List.mem_append_right _ (List.mem_append_right _ (List.mem_append_right _ h))))) hg
theorem gw_s {q : MethodName × Nat} (h : q ∈ lw_privs) (hg : goodWord (Cond.selects q.1.cls q.1 q.1) = true) : Cond.selects q.1.cls q.1 q.1 ∈ gw := List.mem_filter.mpr ⟨List.mem_append_left _ (List.mem_map.mpr ⟨q, h, rfl⟩), hg⟩
def gw_n : List (String × Nat × MethodName × String) := [("LineRules", 9, ⟨"LineRules$Text", "<init>", "()V"⟩, "LineRules"), ("LineRules", 18, ⟨"LineRules$Rule", "<init>", "()V"⟩, "LineRules"), ("LineRules$Text", 55, ⟨"LineRules", "power", "(II)I"⟩, "LineRules"), ("LineRules$Rule", 45, ⟨"LineRules", "power", "(II)I"⟩, "LineRules"), ("LineRules$Inverse", 42, ⟨"LineRules", "power", "(II)I"⟩, "LineRules")]
theorem gw_nt : ∀ q ∈ gw_n, Cond.methodLinkNest q.1 q.2.1 q.2.2.1 q.2.2.2 ∈ tables_1 := List.forall_mem_cons.mpr ⟨(show Cond.methodLinkNest "LineRules" 9 ⟨"LineRules$Text", "<init>", "()V"⟩ "LineRules" ∈ tables_1 from (List.mem_append_left _ (List.mem_of_getElem? (i := 24) rfl))), List.forall_mem_cons.mpr ⟨(show Cond.methodLinkNest "LineRules" 18 ⟨"LineRules$Rule", "<init>", "()V"⟩ "LineRules" ∈ tables_1 from (List.mem_append_left _ (List.mem_of_getElem? (i := 60) rfl))), List.forall_mem_cons.mpr ⟨(show Cond.methodLinkNest "LineRules$Text" 55 ⟨"LineRules", "power", "(II)I"⟩ "LineRules" ∈ tables_1 from (List.mem_append_right _ (List.mem_append_left _ (List.mem_of_getElem? (i := 115) rfl)))), List.forall_mem_cons.mpr ⟨(show Cond.methodLinkNest "LineRules$Rule" 45 ⟨"LineRules", "power", "(II)I"⟩ "LineRules" ∈ tables_1 from (List.mem_append_right _ (List.mem_append_left _ (List.mem_of_getElem? (i := 175) rfl)))), List.forall_mem_cons.mpr ⟨(show Cond.methodLinkNest "LineRules$Inverse" 42 ⟨"LineRules", "power", "(II)I"⟩ "LineRules" ∈ tables_1 from (List.mem_append_right _ (List.mem_append_right _ (List.mem_append_left _ (List.mem_of_getElem? (i := 113) rfl))))), fun _ h => absurd h List.not_mem_nil⟩⟩⟩⟩⟩
set_option maxRecDepth 20000 in
theorem inX0 : ∀ w ∈ u_ws "LineRules" TX0 8, w ∈ gw := by
  show ∀ w ∈ List.map (u_lay "LineRules" TX0) [0, 1, 2, 3, 4, 5, 6, 7], w ∈ gw
  exact List.forall_mem_cons.mpr ⟨(gw_t2 (List.mem_of_getElem? (i := 74) rfl) rfl), List.forall_mem_cons.mpr ⟨(gw_t2 (List.mem_of_getElem? (i := 76) rfl) rfl), List.forall_mem_cons.mpr ⟨(gw_t2 (List.mem_of_getElem? (i := 78) rfl) rfl), List.forall_mem_cons.mpr ⟨(gw_t2 (List.mem_of_getElem? (i := 80) rfl) rfl), List.forall_mem_cons.mpr ⟨(gw_t2 (List.mem_of_getElem? (i := 82) rfl) rfl), List.forall_mem_cons.mpr ⟨(gw_t2 (List.mem_of_getElem? (i := 84) rfl) rfl), List.forall_mem_cons.mpr ⟨(gw_t2 (List.mem_of_getElem? (i := 86) rfl) rfl), List.forall_mem_cons.mpr ⟨(gw_t2 (List.mem_of_getElem? (i := 88) rfl) rfl), fun _ h => absurd h List.not_mem_nil⟩⟩⟩⟩⟩⟩⟩⟩
set_option maxRecDepth 20000 in
theorem inX1 : ∀ w ∈ u_ws "LineRules$Text" TX1 9, w ∈ gw := by
  show ∀ w ∈ List.map (u_lay "LineRules$Text" TX1) [0, 1, 2, 3, 4, 5, 6, 7, 8], w ∈ gw
  exact List.forall_mem_cons.mpr ⟨(gw_t1 (List.mem_of_getElem? (i := 37) rfl) rfl), List.forall_mem_cons.mpr ⟨(gw_t1 (List.mem_of_getElem? (i := 39) rfl) rfl), List.forall_mem_cons.mpr ⟨(gw_t1 (List.mem_of_getElem? (i := 41) rfl) rfl), List.forall_mem_cons.mpr ⟨(gw_t1 (List.mem_of_getElem? (i := 43) rfl) rfl), List.forall_mem_cons.mpr ⟨(gw_t1 (List.mem_of_getElem? (i := 45) rfl) rfl), List.forall_mem_cons.mpr ⟨(gw_t1 (List.mem_of_getElem? (i := 47) rfl) rfl), List.forall_mem_cons.mpr ⟨(gw_t1 (List.mem_of_getElem? (i := 49) rfl) rfl), List.forall_mem_cons.mpr ⟨(gw_t1 (List.mem_of_getElem? (i := 51) rfl) rfl), List.forall_mem_cons.mpr ⟨(gw_t1 (List.mem_of_getElem? (i := 53) rfl) rfl), fun _ h => absurd h List.not_mem_nil⟩⟩⟩⟩⟩⟩⟩⟩⟩
set_option maxRecDepth 20000 in
theorem inX2 : ∀ w ∈ u_ws "LineRules$Rule" TX2 10, w ∈ gw := by
  show ∀ w ∈ List.map (u_lay "LineRules$Rule" TX2) [0, 1, 2, 3, 4, 5, 6, 7, 8, 9], w ∈ gw
  exact List.forall_mem_cons.mpr ⟨(gw_t1 (List.mem_of_getElem? (i := 104) rfl) rfl), List.forall_mem_cons.mpr ⟨(gw_t1 (List.mem_of_getElem? (i := 106) rfl) rfl), List.forall_mem_cons.mpr ⟨(gw_t1 (List.mem_of_getElem? (i := 108) rfl) rfl), List.forall_mem_cons.mpr ⟨(gw_t1 (List.mem_of_getElem? (i := 110) rfl) rfl), List.forall_mem_cons.mpr ⟨(gw_t1 (List.mem_of_getElem? (i := 112) rfl) rfl), List.forall_mem_cons.mpr ⟨(gw_t1 (List.mem_of_getElem? (i := 114) rfl) rfl), List.forall_mem_cons.mpr ⟨(gw_t1 (List.mem_of_getElem? (i := 116) rfl) rfl), List.forall_mem_cons.mpr ⟨(gw_t1 (List.mem_of_getElem? (i := 118) rfl) rfl), List.forall_mem_cons.mpr ⟨(gw_t1 (List.mem_of_getElem? (i := 120) rfl) rfl), List.forall_mem_cons.mpr ⟨(gw_t1 (List.mem_of_getElem? (i := 122) rfl) rfl), fun _ h => absurd h List.not_mem_nil⟩⟩⟩⟩⟩⟩⟩⟩⟩⟩
set_option maxRecDepth 20000 in
theorem inX3 : ∀ w ∈ u_ws "LineRules$Ring" TX3 5, w ∈ gw := by
  show ∀ w ∈ List.map (u_lay "LineRules$Ring" TX3) [0, 1, 2, 3, 4], w ∈ gw
  exact List.forall_mem_cons.mpr ⟨(gw_t1 (List.mem_of_getElem? (i := 141) rfl) rfl), List.forall_mem_cons.mpr ⟨(gw_t1 (List.mem_of_getElem? (i := 143) rfl) rfl), List.forall_mem_cons.mpr ⟨(gw_t1 (List.mem_of_getElem? (i := 145) rfl) rfl), List.forall_mem_cons.mpr ⟨(gw_t1 (List.mem_of_getElem? (i := 147) rfl) rfl), List.forall_mem_cons.mpr ⟨(gw_t1 (List.mem_of_getElem? (i := 149) rfl) rfl), fun _ h => absurd h List.not_mem_nil⟩⟩⟩⟩⟩
set_option maxRecDepth 20000 in
theorem inX4 : ∀ w ∈ u_ws "LineRules$Pairs" TX4 7, w ∈ gw := by
  show ∀ w ∈ List.map (u_lay "LineRules$Pairs" TX4) [0, 1, 2, 3, 4, 5, 6], w ∈ gw
  exact List.forall_mem_cons.mpr ⟨(gw_t1 (List.mem_of_getElem? (i := 165) rfl) rfl), List.forall_mem_cons.mpr ⟨(gw_t1 (List.mem_of_getElem? (i := 167) rfl) rfl), List.forall_mem_cons.mpr ⟨(gw_t1 (List.mem_of_getElem? (i := 169) rfl) rfl), List.forall_mem_cons.mpr ⟨(gw_t1 (List.mem_of_getElem? (i := 171) rfl) rfl), List.forall_mem_cons.mpr ⟨(gw_t1 (List.mem_of_getElem? (i := 173) rfl) rfl), List.forall_mem_cons.mpr ⟨(gw_t1 (List.mem_of_getElem? (i := 175) rfl) rfl), List.forall_mem_cons.mpr ⟨(gw_t1 (List.mem_of_getElem? (i := 177) rfl) rfl), fun _ h => absurd h List.not_mem_nil⟩⟩⟩⟩⟩⟩⟩
set_option maxRecDepth 20000 in
theorem inX5 : ∀ w ∈ u_ws "LineRules$Inverse" TX5 6, w ∈ gw := by
  show ∀ w ∈ List.map (u_lay "LineRules$Inverse" TX5) [0, 1, 2, 3, 4, 5], w ∈ gw
  exact List.forall_mem_cons.mpr ⟨(gw_t1 (List.mem_of_getElem? (i := 192) rfl) rfl), List.forall_mem_cons.mpr ⟨(gw_t1 (List.mem_of_getElem? (i := 194) rfl) rfl), List.forall_mem_cons.mpr ⟨(gw_t1 (List.mem_of_getElem? (i := 196) rfl) rfl), List.forall_mem_cons.mpr ⟨(gw_t1 (List.mem_of_getElem? (i := 198) rfl) rfl), List.forall_mem_cons.mpr ⟨(gw_t1 (List.mem_of_getElem? (i := 200) rfl) rfl), List.forall_mem_cons.mpr ⟨(gw_t1 (List.mem_of_getElem? (i := 202) rfl) rfl), fun _ h => absurd h List.not_mem_nil⟩⟩⟩⟩⟩⟩
set_option maxRecDepth 20000 in
theorem inX6 : ∀ w ∈ u_ws "LineRules$Weights" TX6 6, w ∈ gw := by
  show ∀ w ∈ List.map (u_lay "LineRules$Weights" TX6) [0, 1, 2, 3, 4, 5], w ∈ gw
  exact List.forall_mem_cons.mpr ⟨(gw_t1 (List.mem_of_getElem? (i := 219) rfl) rfl), List.forall_mem_cons.mpr ⟨(gw_t1 (List.mem_of_getElem? (i := 221) rfl) rfl), List.forall_mem_cons.mpr ⟨(gw_t1 (List.mem_of_getElem? (i := 223) rfl) rfl), List.forall_mem_cons.mpr ⟨(gw_t1 (List.mem_of_getElem? (i := 225) rfl) rfl), List.forall_mem_cons.mpr ⟨(gw_t1 (List.mem_of_getElem? (i := 227) rfl) rfl), List.forall_mem_cons.mpr ⟨(gw_t1 (List.mem_of_getElem? (i := 229) rfl) rfl), fun _ h => absurd h List.not_mem_nil⟩⟩⟩⟩⟩⟩
set_option maxRecDepth 20000 in
theorem inX7 : ∀ w ∈ u_ws "LineRules$Orphan" TX7 10, w ∈ gw := by
  show ∀ w ∈ List.map (u_lay "LineRules$Orphan" TX7) [0, 1, 2, 3, 4, 5, 6, 7, 8, 9], w ∈ gw
  exact List.forall_mem_cons.mpr ⟨(gw_t2 (List.mem_of_getElem? (i := 8) rfl) rfl), List.forall_mem_cons.mpr ⟨(gw_t2 (List.mem_of_getElem? (i := 10) rfl) rfl), List.forall_mem_cons.mpr ⟨(gw_t2 (List.mem_of_getElem? (i := 12) rfl) rfl), List.forall_mem_cons.mpr ⟨(gw_t2 (List.mem_of_getElem? (i := 14) rfl) rfl), List.forall_mem_cons.mpr ⟨(gw_t2 (List.mem_of_getElem? (i := 16) rfl) rfl), List.forall_mem_cons.mpr ⟨(gw_t2 (List.mem_of_getElem? (i := 18) rfl) rfl), List.forall_mem_cons.mpr ⟨(gw_t2 (List.mem_of_getElem? (i := 20) rfl) rfl), List.forall_mem_cons.mpr ⟨(gw_t2 (List.mem_of_getElem? (i := 22) rfl) rfl), List.forall_mem_cons.mpr ⟨(gw_t2 (List.mem_of_getElem? (i := 24) rfl) rfl), List.forall_mem_cons.mpr ⟨(gw_t2 (List.mem_of_getElem? (i := 26) rfl) rfl), fun _ h => absurd h List.not_mem_nil⟩⟩⟩⟩⟩⟩⟩⟩⟩⟩
set_option maxRecDepth 20000 in
theorem inX8 : ∀ w ∈ u_ws "LineRules$Past" TX8 10, w ∈ gw := by
  show ∀ w ∈ List.map (u_lay "LineRules$Past" TX8) [0, 1, 2, 3, 4, 5, 6, 7, 8, 9], w ∈ gw
  exact List.forall_mem_cons.mpr ⟨(gw_t2 (List.mem_of_getElem? (i := 45) rfl) rfl), List.forall_mem_cons.mpr ⟨(gw_t2 (List.mem_of_getElem? (i := 47) rfl) rfl), List.forall_mem_cons.mpr ⟨(gw_t2 (List.mem_of_getElem? (i := 49) rfl) rfl), List.forall_mem_cons.mpr ⟨(gw_t2 (List.mem_of_getElem? (i := 51) rfl) rfl), List.forall_mem_cons.mpr ⟨(gw_t2 (List.mem_of_getElem? (i := 53) rfl) rfl), List.forall_mem_cons.mpr ⟨(gw_t2 (List.mem_of_getElem? (i := 55) rfl) rfl), List.forall_mem_cons.mpr ⟨(gw_t2 (List.mem_of_getElem? (i := 57) rfl) rfl), List.forall_mem_cons.mpr ⟨(gw_t2 (List.mem_of_getElem? (i := 59) rfl) rfl), List.forall_mem_cons.mpr ⟨(gw_t2 (List.mem_of_getElem? (i := 61) rfl) rfl), List.forall_mem_cons.mpr ⟨(gw_t2 (List.mem_of_getElem? (i := 63) rfl) rfl), fun _ h => absurd h List.not_mem_nil⟩⟩⟩⟩⟩⟩⟩⟩⟩⟩
set_option maxRecDepth 20000 in
theorem inX9 : ∀ w ∈ u_ws "LineRulesModel" TX9 54, w ∈ gw := by
  show ∀ w ∈ List.map (u_lay "LineRulesModel" TX9) [0, 1, 2, 3, 4, 5, 6, 7, 8, 9, 10, 11, 12, 13, 14, 15, 16, 17, 18, 19, 20, 21, 22, 23, 24, 25, 26, 27, 28, 29, 30, 31, 32, 33, 34, 35, 36, 37, 38, 39, 40, 41, 42, 43, 44, 45, 46, 47, 48, 49, 50, 51, 52, 53], w ∈ gw
  exact List.forall_mem_cons.mpr ⟨(gw_t4 (List.mem_of_getElem? (i := 116) rfl) rfl), List.forall_mem_cons.mpr ⟨(gw_t4 (List.mem_of_getElem? (i := 118) rfl) rfl), List.forall_mem_cons.mpr ⟨(gw_t4 (List.mem_of_getElem? (i := 120) rfl) rfl), List.forall_mem_cons.mpr ⟨(gw_t4 (List.mem_of_getElem? (i := 122) rfl) rfl), List.forall_mem_cons.mpr ⟨(gw_t4 (List.mem_of_getElem? (i := 124) rfl) rfl), List.forall_mem_cons.mpr ⟨(gw_t4 (List.mem_of_getElem? (i := 126) rfl) rfl), List.forall_mem_cons.mpr ⟨(gw_t4 (List.mem_of_getElem? (i := 128) rfl) rfl), List.forall_mem_cons.mpr ⟨(gw_t4 (List.mem_of_getElem? (i := 130) rfl) rfl), List.forall_mem_cons.mpr ⟨(gw_t4 (List.mem_of_getElem? (i := 132) rfl) rfl), List.forall_mem_cons.mpr ⟨(gw_t4 (List.mem_of_getElem? (i := 134) rfl) rfl), List.forall_mem_cons.mpr ⟨(gw_t4 (List.mem_of_getElem? (i := 136) rfl) rfl), List.forall_mem_cons.mpr ⟨(gw_t4 (List.mem_of_getElem? (i := 138) rfl) rfl), List.forall_mem_cons.mpr ⟨(gw_t4 (List.mem_of_getElem? (i := 140) rfl) rfl), List.forall_mem_cons.mpr ⟨(gw_t4 (List.mem_of_getElem? (i := 142) rfl) rfl), List.forall_mem_cons.mpr ⟨(gw_t4 (List.mem_of_getElem? (i := 144) rfl) rfl), List.forall_mem_cons.mpr ⟨(gw_t4 (List.mem_of_getElem? (i := 146) rfl) rfl), List.forall_mem_cons.mpr ⟨(gw_t4 (List.mem_of_getElem? (i := 148) rfl) rfl), List.forall_mem_cons.mpr ⟨(gw_t4 (List.mem_of_getElem? (i := 150) rfl) rfl), List.forall_mem_cons.mpr ⟨(gw_t4 (List.mem_of_getElem? (i := 152) rfl) rfl), List.forall_mem_cons.mpr ⟨(gw_t4 (List.mem_of_getElem? (i := 154) rfl) rfl), List.forall_mem_cons.mpr ⟨(gw_t4 (List.mem_of_getElem? (i := 156) rfl) rfl), List.forall_mem_cons.mpr ⟨(gw_t4 (List.mem_of_getElem? (i := 158) rfl) rfl), List.forall_mem_cons.mpr ⟨(gw_t4 (List.mem_of_getElem? (i := 160) rfl) rfl), List.forall_mem_cons.mpr ⟨(gw_t4 (List.mem_of_getElem? (i := 162) rfl) rfl), List.forall_mem_cons.mpr ⟨(gw_t4 (List.mem_of_getElem? (i := 164) rfl) rfl), List.forall_mem_cons.mpr ⟨(gw_t4 (List.mem_of_getElem? (i := 166) rfl) rfl), List.forall_mem_cons.mpr ⟨(gw_t4 (List.mem_of_getElem? (i := 168) rfl) rfl), List.forall_mem_cons.mpr ⟨(gw_t4 (List.mem_of_getElem? (i := 170) rfl) rfl), List.forall_mem_cons.mpr ⟨(gw_t4 (List.mem_of_getElem? (i := 172) rfl) rfl), List.forall_mem_cons.mpr ⟨(gw_t4 (List.mem_of_getElem? (i := 174) rfl) rfl), List.forall_mem_cons.mpr ⟨(gw_t4 (List.mem_of_getElem? (i := 176) rfl) rfl), List.forall_mem_cons.mpr ⟨(gw_t4 (List.mem_of_getElem? (i := 178) rfl) rfl), List.forall_mem_cons.mpr ⟨(gw_t4 (List.mem_of_getElem? (i := 180) rfl) rfl), List.forall_mem_cons.mpr ⟨(gw_t4 (List.mem_of_getElem? (i := 182) rfl) rfl), List.forall_mem_cons.mpr ⟨(gw_t4 (List.mem_of_getElem? (i := 184) rfl) rfl), List.forall_mem_cons.mpr ⟨(gw_t4 (List.mem_of_getElem? (i := 186) rfl) rfl), List.forall_mem_cons.mpr ⟨(gw_t4 (List.mem_of_getElem? (i := 188) rfl) rfl), List.forall_mem_cons.mpr ⟨(gw_t4 (List.mem_of_getElem? (i := 190) rfl) rfl), List.forall_mem_cons.mpr ⟨(gw_t4 (List.mem_of_getElem? (i := 192) rfl) rfl), List.forall_mem_cons.mpr ⟨(gw_t4 (List.mem_of_getElem? (i := 194) rfl) rfl), List.forall_mem_cons.mpr ⟨(gw_t4 (List.mem_of_getElem? (i := 196) rfl) rfl), List.forall_mem_cons.mpr ⟨(gw_t4 (List.mem_of_getElem? (i := 198) rfl) rfl), List.forall_mem_cons.mpr ⟨(gw_t4 (List.mem_of_getElem? (i := 200) rfl) rfl), List.forall_mem_cons.mpr ⟨(gw_t4 (List.mem_of_getElem? (i := 202) rfl) rfl), List.forall_mem_cons.mpr ⟨(gw_t4 (List.mem_of_getElem? (i := 204) rfl) rfl), List.forall_mem_cons.mpr ⟨(gw_t4 (List.mem_of_getElem? (i := 206) rfl) rfl), List.forall_mem_cons.mpr ⟨(gw_t4 (List.mem_of_getElem? (i := 208) rfl) rfl), List.forall_mem_cons.mpr ⟨(gw_t4 (List.mem_of_getElem? (i := 210) rfl) rfl), List.forall_mem_cons.mpr ⟨(gw_t4 (List.mem_of_getElem? (i := 212) rfl) rfl), List.forall_mem_cons.mpr ⟨(gw_t4 (List.mem_of_getElem? (i := 214) rfl) rfl), List.forall_mem_cons.mpr ⟨(gw_t4 (List.mem_of_getElem? (i := 216) rfl) rfl), List.forall_mem_cons.mpr ⟨(gw_t4 (List.mem_of_getElem? (i := 218) rfl) rfl), List.forall_mem_cons.mpr ⟨(gw_t4 (List.mem_of_getElem? (i := 220) rfl) rfl), List.forall_mem_cons.mpr ⟨(gw_t4 (List.mem_of_getElem? (i := 222) rfl) rfl), fun _ h => absurd h List.not_mem_nil⟩⟩⟩⟩⟩⟩⟩⟩⟩⟩⟩⟩⟩⟩⟩⟩⟩⟩⟩⟩⟩⟩⟩⟩⟩⟩⟩⟩⟩⟩⟩⟩⟩⟩⟩⟩⟩⟩⟩⟩⟩⟩⟩⟩⟩⟩⟩⟩⟩⟩⟩⟩⟩⟩
theorem gw_cpn : Cond.native arraycopyName ∈ gw := (gw_t3 (List.mem_of_getElem? (i := 25) rfl) rfl)
theorem gw_cps : Cond.static arraycopyName ∈ gw := (gw_t3 (List.mem_of_getElem? (i := 24) rfl) rfl)
theorem gw_cpi : Cond.initialized "java/lang/System" ∈ gw := (gw_t1 (List.mem_of_getElem? (i := 13) rfl) rfl)
