/-! names, by wip/whole/tools/gen02.py -/
def gtbl : List Cond := lw_tbl.filter goodWord
theorem tb1 {w : Cond} (i : Nat) (h : tables_1_1[i]? = some w) (hg : goodWord w = true) : w ∈ gtbl := List.mem_filter.mpr ⟨List.mem_append_right _ (List.mem_append_left _ (List.mem_of_getElem? h)), hg⟩
theorem tb2 {w : Cond} (i : Nat) (h : tables_1_2[i]? = some w) (hg : goodWord w = true) : w ∈ gtbl := List.mem_filter.mpr ⟨List.mem_append_right _ (List.mem_append_right _ (List.mem_append_left _ (List.mem_of_getElem? h))), hg⟩
theorem tb3 {w : Cond} (i : Nat) (h : tables_1_3[i]? = some w) (hg : goodWord w = true) : w ∈ gtbl := List.mem_filter.mpr ⟨List.mem_append_right _ (List.mem_append_right _ (List.mem_append_right _ (List.mem_append_left _ (List.mem_of_getElem? h)))), hg⟩
theorem tb4 {w : Cond} (i : Nat) (h : tables_1_4[i]? = some w) (hg : goodWord w = true) : w ∈ gtbl := List.mem_filter.mpr ⟨List.mem_append_right _ (List.mem_append_right _ (List.mem_append_right _ (List.mem_append_right _ (List.mem_append_left _ (List.mem_of_getElem? h))))), hg⟩
theorem tb5 {w : Cond} (i : Nat) (h : tables_1_5[i]? = some w) (hg : goodWord w = true) : w ∈ gtbl := List.mem_filter.mpr ⟨List.mem_append_right _ (List.mem_append_right _ (List.mem_append_right _ (List.mem_append_right _ (List.mem_append_right _ (List.mem_append_left _ (List.mem_of_getElem? h)))))), hg⟩
theorem tb6 {w : Cond} (i : Nat) (h : tables_1_6[i]? = some w) (hg : goodWord w = true) : w ∈ gtbl := List.mem_filter.mpr ⟨List.mem_append_right _ (List.mem_append_right _ (List.mem_append_right _ (List.mem_append_right _ (List.mem_append_right _ (List.mem_append_right _ (List.mem_of_getElem? h)))))), hg⟩
theorem tbp {y : MethodName} {n : Nat} (h : (y, n) ∈ lw_privs) (hg : goodWord (Cond.selects y.cls y y) = true) : Cond.selects y.cls y y ∈ gtbl := List.mem_filter.mpr ⟨List.mem_append_left _ (List.mem_map.mpr ⟨(y, n), h, rfl⟩), hg⟩
def RX0 : String := "RenvoiDesk$Deeds"
def TX0 : u_T := fun k => match k with
  | 0 => ("RenvoiDesk$Deeds", "roads", "LRenvoiDesk$Roads;", true)
  | _ => ("RenvoiDesk$Deeds", "trial", "LRenvoiDesk$Told;", true)
def tyX0 : Nat → FieldType := fun k => match k with
  | 0 => .object "RenvoiDesk$Roads"
  | _ => .object "RenvoiDesk$Told"
theorem nmX0 : ∀ a, a < 2 → ∀ b, b < 2 → a ≠ b → (TX0 a).2.1 ≠ (TX0 b).2.1 := by decide +kernel
theorem tyX0_ok : ∀ k, k < 2 → parseFieldDescriptor (TX0 k).2.2.1 = some (tyX0 k) := by decide +kernel
def RX1 : String := "RenvoiDesk$Past"
def TX1 : u_T := fun k => match k with
  | 0 => ("RenvoiDesk$Past", "before", "[I", true)
  | 1 => ("RenvoiDesk$Past", "kept", "[I", true)
  | 2 => ("RenvoiDesk$Past", "nextRow", "I", false)
  | 3 => ("RenvoiDesk$Past", "laid", "I", false)
  | _ => ("RenvoiDesk$Past", "acts", "I", false)
def tyX1 : Nat → FieldType := fun k => match k with
  | 0 => .array .int
  | 1 => .array .int
  | 2 => .int
  | 3 => .int
  | _ => .int
theorem nmX1 : ∀ a, a < 5 → ∀ b, b < 5 → a ≠ b → (TX1 a).2.1 ≠ (TX1 b).2.1 := by decide +kernel
theorem tyX1_ok : ∀ k, k < 5 → parseFieldDescriptor (TX1 k).2.2.1 = some (tyX1 k) := by decide +kernel
def RX2 : String := "RenvoiDesk$Reader"
def TX2 : u_T := fun k => match k with
  | 0 => ("RenvoiDesk$Reader", "tape", "LRenvoiDesk$Tape;", true)
  | 1 => ("RenvoiDesk$Reader", "keywords", "[I", true)
  | 2 => ("RenvoiDesk$Reader", "names", "[I", true)
  | 3 => ("RenvoiDesk$Reader", "sorts", "[I", true)
  | 4 => ("RenvoiDesk$Reader", "numbers", "[I", true)
  | 5 => ("RenvoiDesk$Reader", "named", "I", false)
  | 6 => ("RenvoiDesk$Reader", "laws", "J", false)
  | 7 => ("RenvoiDesk$Reader", "fault", "I", false)
  | _ => ("RenvoiDesk$Reader", "draft", "LRenvoiDesk$Told;", false)
def tyX2 : Nat → FieldType := fun k => match k with
  | 0 => .object "RenvoiDesk$Tape"
  | 1 => .array .int
  | 2 => .array .int
  | 3 => .array .int
  | 4 => .array .int
  | 5 => .int
  | 6 => .long
  | 7 => .int
  | _ => .object "RenvoiDesk$Told"
theorem nmX2 : ∀ a, a < 9 → ∀ b, b < 9 → a ≠ b → (TX2 a).2.1 ≠ (TX2 b).2.1 := by decide +kernel
theorem tyX2_ok : ∀ k, k < 9 → parseFieldDescriptor (TX2 k).2.2.1 = some (tyX2 k) := by decide +kernel
def RX3 : String := "RenvoiDesk$Roads"
def TX3 : u_T := fun k => match k with
  | 0 => ("RenvoiDesk$Roads", "next", "[I", true)
  | 1 => ("RenvoiDesk$Roads", "theories", "[I", true)
  | 2 => ("RenvoiDesk$Roads", "laws", "[I", true)
  | 3 => ("RenvoiDesk$Roads", "steps", "[I", true)
  | 4 => ("RenvoiDesk$Roads", "lands", "I", false)
  | 5 => ("RenvoiDesk$Roads", "whole", "I", false)
  | 6 => ("RenvoiDesk$Roads", "length", "I", false)
  | 7 => ("RenvoiDesk$Roads", "how", "I", false)
  | _ => ("RenvoiDesk$Roads", "end", "I", false)
def tyX3 : Nat → FieldType := fun k => match k with
  | 0 => .array .int
  | 1 => .array .int
  | 2 => .array .int
  | 3 => .array .int
  | 4 => .int
  | 5 => .int
  | 6 => .int
  | 7 => .int
  | _ => .int
theorem nmX3 : ∀ a, a < 9 → ∀ b, b < 9 → a ≠ b → (TX3 a).2.1 ≠ (TX3 b).2.1 := by decide +kernel
theorem tyX3_ok : ∀ k, k < 9 → parseFieldDescriptor (TX3 k).2.2.1 = some (tyX3 k) := by decide +kernel
def RX4 : String := "RenvoiDesk$Tape"
def TX4 : u_T := fun k => match k with
  | 0 => ("RenvoiDesk$Tape", "bytes", "[B", true)
  | 1 => ("RenvoiDesk$Tape", "length", "I", false)
  | 2 => ("RenvoiDesk$Tape", "at", "I", false)
  | 3 => ("RenvoiDesk$Tape", "limit", "I", false)
  | 4 => ("RenvoiDesk$Tape", "token", "I", false)
  | 5 => ("RenvoiDesk$Tape", "place", "I", false)
  | _ => ("RenvoiDesk$Tape", "value", "I", false)
def tyX4 : Nat → FieldType := fun k => match k with
  | 0 => .array .byte
  | 1 => .int
  | 2 => .int
  | 3 => .int
  | 4 => .int
  | 5 => .int
  | _ => .int
theorem nmX4 : ∀ a, a < 7 → ∀ b, b < 7 → a ≠ b → (TX4 a).2.1 ≠ (TX4 b).2.1 := by decide +kernel
theorem tyX4_ok : ∀ k, k < 7 → parseFieldDescriptor (TX4 k).2.2.1 = some (tyX4 k) := by decide +kernel
def RX5 : String := "RenvoiDesk$Told"
def TX5 : u_T := fun k => match k with
  | 0 => ("RenvoiDesk$Told", "cells", "[I", true)
  | 1 => ("RenvoiDesk$Told", "needs", "[I", true)
  | 2 => ("RenvoiDesk$Told", "lands", "I", false)
  | 3 => ("RenvoiDesk$Told", "issues", "I", false)
  | 4 => ("RenvoiDesk$Told", "facts", "I", false)
  | _ => ("RenvoiDesk$Told", "deeds", "I", false)
def tyX5 : Nat → FieldType := fun k => match k with
  | 0 => .array .int
  | 1 => .array .int
  | 2 => .int
  | 3 => .int
  | 4 => .int
  | _ => .int
theorem nmX5 : ∀ a, a < 6 → ∀ b, b < 6 → a ≠ b → (TX5 a).2.1 ≠ (TX5 b).2.1 := by decide +kernel
theorem tyX5_ok : ∀ k, k < 6 → parseFieldDescriptor (TX5 k).2.2.1 = some (tyX5 k) := by decide +kernel
def RX6 : String := "RenvoiDesk"
def TX6 : u_T := fun k => match k with
  | 0 => ("RenvoiDesk", "tape", "LRenvoiDesk$Tape;", true)
  | 1 => ("RenvoiDesk", "reader", "LRenvoiDesk$Reader;", true)
  | 2 => ("RenvoiDesk", "roads", "LRenvoiDesk$Roads;", true)
  | 3 => ("RenvoiDesk", "deeds", "LRenvoiDesk$Deeds;", true)
  | 4 => ("RenvoiDesk", "past", "LRenvoiDesk$Past;", true)
  | _ => ("RenvoiDesk", "told", "LRenvoiDesk$Told;", false)
def tyX6 : Nat → FieldType := fun k => match k with
  | 0 => .object "RenvoiDesk$Tape"
  | 1 => .object "RenvoiDesk$Reader"
  | 2 => .object "RenvoiDesk$Roads"
  | 3 => .object "RenvoiDesk$Deeds"
  | 4 => .object "RenvoiDesk$Past"
  | _ => .object "RenvoiDesk$Told"
theorem nmX6 : ∀ a, a < 6 → ∀ b, b < 6 → a ≠ b → (TX6 a).2.1 ≠ (TX6 b).2.1 := by decide +kernel
theorem tyX6_ok : ∀ k, k < 6 → parseFieldDescriptor (TX6 k).2.2.1 = some (tyX6 k) := by decide +kernel
def RX7 : String := "RenvoiDeskModel"
def TX7 : u_T := fun k => match k with
  | 0 => ("RenvoiDeskModel", "thrown", "I", false)
  | 1 => ("RenvoiDeskModel", "tape", "[B", true)
  | 2 => ("RenvoiDeskModel", "taped", "I", false)
  | 3 => ("RenvoiDeskModel", "size", "I", false)
  | 4 => ("RenvoiDeskModel", "from", "I", false)
  | 5 => ("RenvoiDeskModel", "to", "I", false)
  | 6 => ("RenvoiDeskModel", "token", "I", false)
  | 7 => ("RenvoiDeskModel", "value", "I", false)
  | 8 => ("RenvoiDeskModel", "word", "J", false)
  | 9 => ("RenvoiDeskModel", "fault", "I", false)
  | 10 => ("RenvoiDeskModel", "faultPlace", "I", false)
  | 11 => ("RenvoiDeskModel", "numberHere", "I", false)
  | 12 => ("RenvoiDeskModel", "bench", "I", false)
  | 13 => ("RenvoiDeskModel", "many", "[I", true)
  | 14 => ("RenvoiDeskModel", "names", "[J", true)
  | 15 => ("RenvoiDeskModel", "deeds", "[I", true)
  | 16 => ("RenvoiDeskModel", "s", "[I", true)
  | 17 => ("RenvoiDeskModel", "read", "[I", true)
  | 18 => ("RenvoiDeskModel", "said", "[Z", true)
  | 19 => ("RenvoiDeskModel", "undone", "[I", true)
  | 20 => ("RenvoiDeskModel", "undos", "I", false)
  | 21 => ("RenvoiDeskModel", "kept", "[I", true)
  | 22 => ("RenvoiDeskModel", "isKept", "[Z", true)
  | 23 => ("RenvoiDeskModel", "nameHere", "J", false)
  | 24 => ("RenvoiDeskModel", "foundHere", "I", false)
  | 25 => ("RenvoiDeskModel", "row", "[I", true)
  | 26 => ("RenvoiDeskModel", "rowMany", "I", false)
  | 27 => ("RenvoiDeskModel", "how", "I", false)
  | _ => ("RenvoiDeskModel", "last", "I", false)
def tyX7 : Nat → FieldType := fun k => match k with
  | 0 => .int
  | 1 => .array .byte
  | 2 => .int
  | 3 => .int
  | 4 => .int
  | 5 => .int
  | 6 => .int
  | 7 => .int
  | 8 => .long
  | 9 => .int
  | 10 => .int
  | 11 => .int
  | 12 => .int
  | 13 => .array .int
  | 14 => .array .long
  | 15 => .array .int
  | 16 => .array .int
  | 17 => .array .int
  | 18 => .array .boolean
  | 19 => .array .int
  | 20 => .int
  | 21 => .array .int
  | 22 => .array .boolean
  | 23 => .long
  | 24 => .int
  | 25 => .array .int
  | 26 => .int
  | 27 => .int
  | _ => .int
theorem nmX7 : ∀ a, a < 29 → ∀ b, b < 29 → a ≠ b → (TX7 a).2.1 ≠ (TX7 b).2.1 := by decide +kernel
theorem tyX7_ok : ∀ k, k < 29 → parseFieldDescriptor (TX7 k).2.2.1 = some (tyX7 k) := by decide +kernel
abbrev vwCl : List vw_C := [(RX0, TX0, 2), (RX1, TX1, 5), (RX2, TX2, 9), (RX3, TX3, 9), (RX4, TX4, 7), (RX5, TX5, 6), (RX6, TX6, 6), (RX7, TX7, 29)]
def cTys : List (Nat → FieldType) := [tyX0, tyX1, tyX2, tyX3, tyX4, tyX5, tyX6, tyX7]
def cTy (ci : Nat) : Nat → FieldType := cTys.getD ci (fun _ => .int)
/-- a class of the system, as the tables have it -/
def cOK (ci : Nat) (q : vw_C) : Prop := (∀ w ∈ u_ws q.1 q.2.1 q.2.2, w ∈ gtbl) ∧ (∀ k, k < q.2.2 → parseFieldDescriptor (q.2.1 k).2.2.1 = some (cTy ci k)) ∧ (∀ a, a < q.2.2 → ∀ b, b < q.2.2 → a ≠ b → (q.2.1 a).2.1 ≠ (q.2.1 b).2.1) ∧ Cond.instantiable q.1 q.2.2 ∈ gtbl ∧ Cond.initialized q.1 ∈ gtbl ∧ (∀ k, k < q.2.2 → (q.2.1 k).1 = q.1)
set_option maxRecDepth 20000 in
theorem cw_0 : ∀ w ∈ u_ws RX0 TX0 2, w ∈ gtbl := (List.forall_mem_cons.mpr ⟨tb2 8 rfl rfl, (List.forall_mem_cons.mpr ⟨tb2 10 rfl rfl, (fun _ h => absurd h List.not_mem_nil)⟩)⟩)
theorem cx_0 : cOK 0 (RX0, TX0, 2) := ⟨cw_0, tyX0_ok, nmX0, tb1 237 rfl rfl, tb1 10 rfl rfl, by decide +kernel⟩
set_option maxRecDepth 20000 in
theorem cw_1 : ∀ w ∈ u_ws RX1 TX1 5, w ∈ gtbl := (List.forall_mem_cons.mpr ⟨tb2 25 rfl rfl, (List.forall_mem_cons.mpr ⟨tb2 27 rfl rfl, (List.forall_mem_cons.mpr ⟨tb2 29 rfl rfl, (List.forall_mem_cons.mpr ⟨tb2 31 rfl rfl, (List.forall_mem_cons.mpr ⟨tb2 33 rfl rfl, (fun _ h => absurd h List.not_mem_nil)⟩)⟩)⟩)⟩)⟩)
theorem cx_1 : cOK 1 (RX1, TX1, 5) := ⟨cw_1, tyX1_ok, nmX1, tb2 14 rfl rfl, tb1 11 rfl rfl, by decide +kernel⟩
set_option maxRecDepth 20000 in
theorem cw_2 : ∀ w ∈ u_ws RX2 TX2 9, w ∈ gtbl := (List.forall_mem_cons.mpr ⟨tb1 180 rfl rfl, (List.forall_mem_cons.mpr ⟨tb1 182 rfl rfl, (List.forall_mem_cons.mpr ⟨tb1 184 rfl rfl, (List.forall_mem_cons.mpr ⟨tb1 186 rfl rfl, (List.forall_mem_cons.mpr ⟨tb1 188 rfl rfl, (List.forall_mem_cons.mpr ⟨tb1 190 rfl rfl, (List.forall_mem_cons.mpr ⟨tb1 192 rfl rfl, (List.forall_mem_cons.mpr ⟨tb1 194 rfl rfl, (List.forall_mem_cons.mpr ⟨tb1 196 rfl rfl, (fun _ h => absurd h List.not_mem_nil)⟩)⟩)⟩)⟩)⟩)⟩)⟩)⟩)⟩)
theorem cx_2 : cOK 2 (RX2, TX2, 9) := ⟨cw_2, tyX2_ok, nmX2, tb1 31 rfl rfl, tb1 2 rfl rfl, by decide +kernel⟩
set_option maxRecDepth 20000 in
theorem cw_3 : ∀ w ∈ u_ws RX3 TX3 9, w ∈ gtbl := (List.forall_mem_cons.mpr ⟨tb1 217 rfl rfl, (List.forall_mem_cons.mpr ⟨tb1 219 rfl rfl, (List.forall_mem_cons.mpr ⟨tb1 221 rfl rfl, (List.forall_mem_cons.mpr ⟨tb1 223 rfl rfl, (List.forall_mem_cons.mpr ⟨tb1 225 rfl rfl, (List.forall_mem_cons.mpr ⟨tb1 227 rfl rfl, (List.forall_mem_cons.mpr ⟨tb1 229 rfl rfl, (List.forall_mem_cons.mpr ⟨tb1 231 rfl rfl, (List.forall_mem_cons.mpr ⟨tb1 233 rfl rfl, (fun _ h => absurd h List.not_mem_nil)⟩)⟩)⟩)⟩)⟩)⟩)⟩)⟩)⟩)
theorem cx_3 : cOK 3 (RX3, TX3, 9) := ⟨cw_3, tyX3_ok, nmX3, tb1 200 rfl rfl, tb1 9 rfl rfl, by decide +kernel⟩
set_option maxRecDepth 20000 in
theorem cw_4 : ∀ w ∈ u_ws RX4 TX4 7, w ∈ gtbl := (List.forall_mem_cons.mpr ⟨tb1 53 rfl rfl, (List.forall_mem_cons.mpr ⟨tb1 55 rfl rfl, (List.forall_mem_cons.mpr ⟨tb1 57 rfl rfl, (List.forall_mem_cons.mpr ⟨tb1 59 rfl rfl, (List.forall_mem_cons.mpr ⟨tb1 61 rfl rfl, (List.forall_mem_cons.mpr ⟨tb1 63 rfl rfl, (List.forall_mem_cons.mpr ⟨tb1 65 rfl rfl, (fun _ h => absurd h List.not_mem_nil)⟩)⟩)⟩)⟩)⟩)⟩)⟩)
theorem cx_4 : cOK 4 (RX4, TX4, 7) := ⟨cw_4, tyX4_ok, nmX4, tb1 37 rfl rfl, tb1 3 rfl rfl, by decide +kernel⟩
set_option maxRecDepth 20000 in
theorem cw_5 : ∀ w ∈ u_ws RX5 TX5 6, w ∈ gtbl := (List.forall_mem_cons.mpr ⟨tb1 93 rfl rfl, (List.forall_mem_cons.mpr ⟨tb1 95 rfl rfl, (List.forall_mem_cons.mpr ⟨tb1 97 rfl rfl, (List.forall_mem_cons.mpr ⟨tb1 99 rfl rfl, (List.forall_mem_cons.mpr ⟨tb1 101 rfl rfl, (List.forall_mem_cons.mpr ⟨tb1 103 rfl rfl, (fun _ h => absurd h List.not_mem_nil)⟩)⟩)⟩)⟩)⟩)⟩)
theorem cx_5 : cOK 5 (RX5, TX5, 6) := ⟨cw_5, tyX5_ok, nmX5, tb1 70 rfl rfl, tb1 4 rfl rfl, by decide +kernel⟩
set_option maxRecDepth 20000 in
theorem cw_6 : ∀ w ∈ u_ws RX6 TX6 6, w ∈ gtbl := (List.forall_mem_cons.mpr ⟨tb2 44 rfl rfl, (List.forall_mem_cons.mpr ⟨tb2 46 rfl rfl, (List.forall_mem_cons.mpr ⟨tb2 48 rfl rfl, (List.forall_mem_cons.mpr ⟨tb2 50 rfl rfl, (List.forall_mem_cons.mpr ⟨tb2 52 rfl rfl, (List.forall_mem_cons.mpr ⟨tb2 54 rfl rfl, (fun _ h => absurd h List.not_mem_nil)⟩)⟩)⟩)⟩)⟩)⟩)
theorem cx_6 : cOK 6 (RX6, TX6, 6) := ⟨cw_6, tyX6_ok, nmX6, tb1 23 rfl rfl, tb1 1 rfl rfl, by decide +kernel⟩
set_option maxRecDepth 20000 in
theorem cw_7 : ∀ w ∈ u_ws RX7 TX7 29, w ∈ gtbl := (List.forall_mem_cons.mpr ⟨tb4 213 rfl rfl, (List.forall_mem_cons.mpr ⟨tb4 215 rfl rfl, (List.forall_mem_cons.mpr ⟨tb4 217 rfl rfl, (List.forall_mem_cons.mpr ⟨tb4 219 rfl rfl, (List.forall_mem_cons.mpr ⟨tb4 221 rfl rfl, (List.forall_mem_cons.mpr ⟨tb4 223 rfl rfl, (List.forall_mem_cons.mpr ⟨tb4 225 rfl rfl, (List.forall_mem_cons.mpr ⟨tb4 227 rfl rfl, (List.forall_mem_cons.mpr ⟨tb4 229 rfl rfl, (List.forall_mem_cons.mpr ⟨tb4 231 rfl rfl, (List.forall_mem_cons.mpr ⟨tb4 233 rfl rfl, (List.forall_mem_cons.mpr ⟨tb4 235 rfl rfl, (List.forall_mem_cons.mpr ⟨tb4 237 rfl rfl, (List.forall_mem_cons.mpr ⟨tb4 239 rfl rfl, (List.forall_mem_cons.mpr ⟨tb5 1 rfl rfl, (List.forall_mem_cons.mpr ⟨tb5 3 rfl rfl, (List.forall_mem_cons.mpr ⟨tb5 5 rfl rfl, (List.forall_mem_cons.mpr ⟨tb5 7 rfl rfl, (List.forall_mem_cons.mpr ⟨tb5 9 rfl rfl, (List.forall_mem_cons.mpr ⟨tb5 11 rfl rfl, (List.forall_mem_cons.mpr ⟨tb5 13 rfl rfl, (List.forall_mem_cons.mpr ⟨tb5 15 rfl rfl, (List.forall_mem_cons.mpr ⟨tb5 17 rfl rfl, (List.forall_mem_cons.mpr ⟨tb5 19 rfl rfl, (List.forall_mem_cons.mpr ⟨tb5 21 rfl rfl, (List.forall_mem_cons.mpr ⟨tb5 23 rfl rfl, (List.forall_mem_cons.mpr ⟨tb5 25 rfl rfl, (List.forall_mem_cons.mpr ⟨tb5 27 rfl rfl, (List.forall_mem_cons.mpr ⟨tb5 29 rfl rfl, (fun _ h => absurd h List.not_mem_nil)⟩)⟩)⟩)⟩)⟩)⟩)⟩)⟩)⟩)⟩)⟩)⟩)⟩)⟩)⟩)⟩)⟩)⟩)⟩)⟩)⟩)⟩)⟩)⟩)⟩)⟩)⟩)⟩)⟩)
theorem cx_7 : cOK 7 (RX7, TX7, 29) := ⟨cw_7, tyX7_ok, nmX7, tb4 179 rfl rfl, tb1 12 rfl rfl, by decide +kernel⟩
theorem cx_all : ∀ (ci : Nat) (q : vw_C), vwCl[ci]? = some q → cOK ci q := by
  intro ci q h
  match ci, h with
  | 0, h => cases h; exact cx_0
  | 1, h => cases h; exact cx_1
  | 2, h => cases h; exact cx_2
  | 3, h => cases h; exact cx_3
  | 4, h => cases h; exact cx_4
  | 5, h => cases h; exact cx_5
  | 6, h => cases h; exact cx_6
  | 7, h => cases h; exact cx_7
  | k + 8, h => simp [vwCl] at h
def oNames : List String := ["RenvoiDesk$Deeds", "RenvoiDesk$Past", "RenvoiDesk$Reader", "RenvoiDesk$Roads", "RenvoiDesk$Tape", "RenvoiDesk$Told", "RenvoiDesk", "RenvoiDeskModel", "RenvoiDeskLaw", "java/lang/Integer", "java/lang/Long", "java/util/Arrays"]
def oName (o : Nat) : String := oNames.getD o ""
def mOwns : List Nat := [0, 0, 0, 0, 0, 0, 0, 1, 1, 1, 1, 1, 1, 2, 2, 2, 2, 2, 2, 2, 2, 2, 2, 2, 2, 2, 2, 2, 2, 2, 2, 3, 3, 3, 3, 3, 3, 3, 3, 3, 3, 3, 3, 3, 3, 4, 4, 4, 4, 4, 4, 4, 4, 4, 5, 5, 5, 5, 5, 5, 5, 5, 5, 5, 5, 5, 5, 5, 5, 5, 5, 5, 5, 5, 5, 5, 5, 5, 5, 5, 5, 5, 5, 5, 5, 5, 5, 5, 5, 5, 5, 6, 6, 6, 6, 6, 6, 6, 6, 6, 6, 6, 6, 6, 6, 6, 6, 6, 6, 6, 6, 6, 6, 6, 6, 6, 6, 6, 6, 6, 6, 6, 6, 6, 6, 6, 6, 6, 6, 7, 7, 7, 7, 7, 7, 7, 7, 7, 7, 7, 7, 7, 7, 7, 7, 7, 7, 7, 7, 7, 7, 7, 7, 7, 7, 7, 7, 7, 7, 7, 7, 7, 7, 7, 7, 7, 7, 7, 7, 7, 7, 7, 7, 7, 7, 7, 7, 7, 7, 7, 7, 7, 7, 7, 7, 7, 7, 7, 7, 7, 7, 7, 7, 7, 7, 7, 7, 7, 7, 7, 7, 7, 7, 7, 7, 7, 7, 7, 7, 7, 7, 7, 7, 7, 7, 7, 8, 8, 9, 10, 11]
def mMaxLs : List Nat := [1, 6, 5, 11, 2, 6, 5, 1, 1, 2, 2, 3, 3, 1, 3, 3, 1, 2, 1, 2, 4, 5, 6, 3, 3, 2, 1, 1, 2, 3, 2, 1, 6, 2, 2, 4, 2, 4, 4, 8, 5, 2, 2, 4, 4, 1, 2, 3, 2, 1, 1, 1, 2, 1, 1, 1, 2, 3, 3, 2, 1, 2, 2, 2, 2, 2, 2, 3, 1, 2, 3, 2, 3, 2, 3, 4, 3, 6, 1, 1, 4, 3, 4, 2, 4, 3, 4, 2, 3, 5, 4, 1, 6, 4, 3, 2, 5, 3, 2, 2, 4, 4, 4, 5, 5, 4, 4, 1, 1, 6, 7, 7, 3, 6, 3, 2, 4, 3, 2, 4, 4, 5, 5, 5, 3, 3, 1, 3, 2, 1, 1, 6, 3, 6, 2, 2, 3, 4, 2, 1, 3, 2, 3, 1, 1, 4, 2, 3, 1, 3, 3, 3, 5, 3, 2, 5, 2, 2, 2, 2, 3, 4, 4, 3, 2, 3, 3, 5, 3, 2, 2, 3, 2, 5, 4, 4, 4, 6, 7, 6, 8, 3, 3, 4, 4, 4, 5, 8, 5, 5, 4, 4, 1, 3, 3, 2, 3, 10, 8, 3, 2, 4, 3, 3, 6, 4, 4, 5, 5, 4, 4, 2, 4, 3, 3, 2, 5, 7, 1, 2, 4]
def mKinds : List Nat := [2, 0, 0, 0, 0, 0, 0, 2, 0, 0, 0, 0, 0, 2, 1, 0, 0, 0, 0, 0, 0, 0, 0, 0, 0, 0, 0, 0, 0, 0, 0, 2, 0, 1, 0, 0, 0, 0, 0, 0, 0, 0, 0, 0, 0, 2, 0, 0, 0, 0, 0, 0, 1, 1, 2, 0, 0, 0, 0, 0, 0, 0, 0, 0, 0, 0, 0, 0, 0, 0, 0, 0, 0, 0, 0, 0, 0, 0, 1, 1, 0, 0, 0, 0, 0, 0, 0, 0, 0, 0, 0, 2, 0, 0, 0, 0, 0, 0, 0, 0, 0, 0, 0, 0, 1, 0, 0, 1, 1, 0, 0, 0, 1, 0, 0, 0, 0, 0, 0, 0, 0, 0, 0, 0, 0, 0, 0, 0, 0, 2, 0, 1, 0, 0, 0, 0, 0, 1, 0, 0, 0, 0, 0, 0, 0, 0, 0, 0, 0, 0, 0, 0, 0, 0, 0, 0, 0, 0, 0, 0, 0, 0, 0, 0, 0, 0, 0, 0, 0, 0, 0, 0, 0, 0, 0, 0, 0, 0, 0, 0, 0, 0, 0, 0, 0, 0, 0, 0, 0, 0, 0, 0, 0, 1, 0, 0, 0, 0, 0, 0, 0, 0, 0, 0, 0, 0, 0, 0, 0, 0, 0, 0, 0, 0, 0, 0, 1, 1, 1, 1, 1]
def mArgs : List Nat := [0, 2, 2, 3, 1, 2, 1, 0, 0, 1, 1, 2, 2, 0, 1, 1, 0, 0, 0, 0, 0, 0, 0, 2, 1, 1, 0, 0, 0, 1, 1, 0, 2, 2, 1, 1, 1, 0, 0, 2, 2, 1, 1, 1, 0, 0, 1, 1, 1, 0, 0, 0, 2, 1, 0, 0, 1, 2, 2, 1, 0, 1, 1, 1, 1, 1, 1, 2, 0, 1, 2, 1, 2, 1, 2, 3, 2, 4, 1, 1, 1, 0, 1, 1, 1, 0, 2, 1, 1, 2, 2, 0, 5, 1, 2, 1, 3, 2, 1, 1, 3, 3, 1, 2, 2, 3, 3, 1, 1, 2, 2, 2, 3, 1, 2, 1, 0, 2, 1, 2, 2, 4, 3, 2, 1, 2, 0, 2, 1, 0, 0, 3, 1, 5, 1, 0, 2, 1, 1, 0, 2, 1, 1, 0, 0, 2, 1, 0, 0, 0, 0, 0, 0, 0, 0, 1, 1, 1, 1, 1, 2, 1, 1, 2, 1, 2, 2, 3, 2, 1, 1, 1, 1, 2, 3, 3, 1, 2, 2, 3, 3, 2, 2, 3, 3, 3, 2, 2, 2, 1, 2, 1, 0, 1, 2, 1, 0, 2, 3, 1, 0, 2, 2, 2, 4, 3, 1, 2, 1, 2, 2, 0, 2, 0, 0, 1, 5, 1, 1, 1, 2]
def mRets : List (Option FieldType) := [none, some .int, some .boolean, some .int, none, some .boolean, some .boolean, none, none, none, some .boolean, some .boolean, some .boolean, none, some .int, some .int, some .boolean, some .boolean, some .boolean, some .boolean, some .boolean, some .boolean, some .boolean, some .boolean, some .int, some .int, some .boolean, some .boolean, some .int, some .int, some .boolean, none, none, some .int, some .boolean, none, some .int, some .long, some .int, some .int, some .int, some .int, some .int, some .int, some .int, none, some .boolean, none, none, none, none, none, some .int, some .int, none, none, none, none, none, none, none, none, none, some .boolean, some .boolean, some .boolean, some .boolean, some .boolean, some .int, some .int, none, some .int, none, some .int, some .int, none, some .int, none, some .int, some .boolean, some .int, some .int, some .int, some .int, some .int, some .int, none, none, some .int, none, none, none, some .int, some .int, some .int, some .int, some .int, some .int, some .int, some .int, some .int, some .int, some .int, some .int, some .int, some .int, some .int, some .boolean, some .boolean, some .int, some .int, some .int, some .int, some .long, some .int, some .int, some .int, some .int, some .int, some .int, some .int, some .boolean, some .int, some .int, some .int, some .boolean, some .int, some .boolean, some .int, none, some .int, some .boolean, none, some .int, some .int, none, some .boolean, some .long, some .boolean, some .boolean, some .boolean, some .int, some .int, some .boolean, some .boolean, none, some .boolean, some .boolean, some .boolean, some .boolean, some .boolean, some .boolean, some .boolean, some .boolean, none, some .int, some .boolean, some .boolean, some .boolean, some .boolean, some .int, some .int, some .int, some .int, some .int, some .int, some .boolean, some .int, some .int, some .int, some .int, some .boolean, none, none, some .int, some .int, some .int, some .int, some .int, some .int, some .int, some .int, some .int, some .boolean, some .int, some .int, some .int, some .int, some .int, some .long, some .boolean, some .int, some .int, some .int, some .int, some .int, some .int, some .int, some .boolean, some .int, none, some .int, some .int, some .int, some .boolean, some .int, some .int, some .int, some .int, none, some .boolean, some .int, some .boolean, some .int, some .int, some .int, some .int, some .boolean, some .int, some .int, none]
def mCs : List Nat := [8, 0, 0, 0, 0, 0, 0, 2, 0, 0, 0, 0, 0, 9, 0, 0, 0, 0, 0, 0, 0, 0, 0, 0, 0, 0, 0, 0, 0, 0, 0, 4, 0, 0, 0, 0, 0, 0, 0, 0, 0, 0, 0, 0, 0, 1, 0, 0, 0, 0, 0, 0, 0, 0, 2, 0, 0, 0, 0, 0, 0, 0, 0, 0, 0, 0, 0, 0, 0, 0, 0, 0, 0, 0, 0, 0, 0, 0, 0, 0, 0, 0, 0, 0, 0, 0, 0, 0, 0, 0, 0, 30, 0, 0, 0, 0, 0, 0, 0, 0, 0, 0, 0, 0, 0, 0, 0, 0, 0, 0, 0, 0, 0, 0, 0, 0, 0, 0, 0, 0, 0, 0, 0, 0, 0, 0, 0, 0, 0, 11, 0, 0, 0, 0, 0, 0, 0, 0, 0, 0, 0, 0, 0, 0, 0, 0, 0, 0, 0, 0, 0, 0, 0, 0, 0, 0, 0, 0, 0, 0, 0, 0, 0, 0, 0, 0, 0, 0, 0, 0, 0, 0, 0, 0, 0, 0, 0, 0, 0, 0, 0, 0, 0, 0, 0, 0, 0, 0, 0, 0, 0, 0, 0, 0, 0, 0, 0, 0, 0, 0, 0, 0, 0, 0, 0, 0, 0, 0, 0, 0, 0, 0, 0, 0, 0, 0, 1, 0, 0, 0, 0]
def mSs : List Nat := [134, 0, 0, 0, 0, 0, 0, 1246, 0, 0, 0, 0, 0, 881, 0, 0, 0, 0, 0, 0, 0, 0, 0, 0, 0, 0, 0, 0, 0, 0, 0, 25, 0, 0, 0, 0, 0, 0, 0, 0, 0, 0, 0, 0, 0, 700, 0, 0, 0, 0, 0, 0, 0, 0, 94, 0, 0, 0, 0, 0, 0, 0, 0, 0, 0, 0, 0, 0, 0, 0, 0, 0, 0, 0, 0, 0, 0, 0, 0, 0, 0, 0, 0, 0, 0, 0, 0, 0, 0, 0, 0, 2411, 0, 0, 0, 0, 0, 0, 0, 0, 0, 0, 0, 0, 0, 0, 0, 0, 0, 0, 0, 0, 0, 0, 0, 0, 0, 0, 0, 0, 0, 0, 0, 0, 0, 0, 0, 0, 0, 2258, 0, 0, 0, 0, 0, 0, 0, 0, 0, 0, 0, 0, 0, 0, 0, 0, 0, 0, 0, 0, 0, 0, 0, 0, 0, 0, 0, 0, 0, 0, 0, 0, 0, 0, 0, 0, 0, 0, 0, 0, 0, 0, 0, 0, 0, 0, 0, 0, 0, 0, 0, 0, 0, 0, 0, 0, 0, 0, 0, 0, 0, 0, 0, 0, 0, 0, 0, 0, 0, 0, 0, 0, 0, 0, 0, 0, 0, 0, 0, 0, 0, 0, 0, 0, 0, 0, 6, 0, 0, 0, 0]
def mCodes : List ByteArray := [prog_2_method_1_code, prog_2_method_2_code, prog_2_method_3_code, prog_2_method_4_code, prog_2_method_5_code, prog_2_method_6_code, prog_2_method_7_code, prog_3_method_1_code, prog_3_method_2_code, prog_3_method_3_code, prog_3_method_4_code, prog_3_method_5_code, prog_3_method_6_code, prog_4_method_1_code, prog_4_method_2_code, prog_4_method_3_code, prog_4_method_4_code, prog_4_method_5_code, prog_4_method_6_code, prog_4_method_7_code, prog_4_method_8_code, prog_4_method_9_code, prog_4_method_10_code, prog_4_method_11_code, prog_4_method_12_code, prog_4_method_13_code, prog_4_method_14_code, prog_4_method_15_code, prog_4_method_16_code, prog_4_method_17_code, prog_4_method_18_code, prog_5_method_1_code, prog_5_method_2_code, prog_5_method_3_code, prog_5_method_4_code, prog_5_method_5_code, prog_5_method_6_code, prog_5_method_7_code, prog_5_method_8_code, prog_5_method_9_code, prog_5_method_10_code, prog_5_method_11_code, prog_5_method_12_code, prog_5_method_13_code, prog_5_method_14_code, prog_6_method_1_code, prog_6_method_2_code, prog_6_method_3_code, prog_6_method_4_code, prog_6_method_5_code, prog_6_method_6_code, prog_6_method_7_code, prog_6_method_8_code, prog_6_method_9_code, prog_7_method_1_code, prog_7_method_2_code, prog_7_method_3_code, prog_7_method_4_code, prog_7_method_5_code, prog_7_method_6_code, prog_7_method_7_code, prog_7_method_8_code, prog_7_method_9_code, prog_7_method_10_code, prog_7_method_11_code, prog_7_method_12_code, prog_7_method_13_code, prog_7_method_14_code, prog_7_method_15_code, prog_7_method_16_code, prog_7_method_17_code, prog_7_method_18_code, prog_7_method_19_code, prog_7_method_20_code, prog_7_method_21_code, prog_7_method_22_code, prog_7_method_23_code, prog_7_method_24_code, prog_7_method_25_code, prog_7_method_26_code, prog_7_method_27_code, prog_7_method_28_code, prog_7_method_29_code, prog_7_method_30_code, prog_7_method_31_code, prog_7_method_32_code, prog_7_method_33_code, prog_7_method_34_code, prog_7_method_35_code, prog_7_method_36_code, prog_7_method_37_code, prog_1_method_1_code, prog_1_method_2_code, prog_1_method_3_code, prog_1_method_4_code, prog_1_method_5_code, prog_1_method_6_code, prog_1_method_7_code, prog_1_method_8_code, prog_1_method_9_code, prog_1_method_10_code, prog_1_method_11_code, prog_1_method_12_code, prog_1_method_13_code, prog_1_method_14_code, prog_1_method_15_code, prog_1_method_16_code, prog_1_method_17_code, prog_1_method_18_code, prog_1_method_19_code, prog_1_method_20_code, prog_1_method_21_code, prog_1_method_22_code, prog_1_method_23_code, prog_1_method_24_code, prog_1_method_25_code, prog_1_method_26_code, prog_1_method_27_code, prog_1_method_28_code, prog_1_method_29_code, prog_1_method_30_code, prog_1_method_31_code, prog_1_method_32_code, prog_1_method_33_code, prog_1_method_34_code, prog_1_method_35_code, prog_1_method_36_code, prog_1_method_37_code, prog_1_method_38_code, prog_9_method_1_code, prog_9_method_2_code, prog_9_method_3_code, prog_9_method_4_code, prog_9_method_5_code, prog_9_method_6_code, prog_9_method_7_code, prog_9_method_8_code, prog_9_method_9_code, prog_9_method_10_code, prog_9_method_11_code, prog_9_method_12_code, prog_9_method_13_code, prog_9_method_14_code, prog_9_method_15_code, prog_9_method_16_code, prog_9_method_17_code, prog_9_method_18_code, prog_9_method_19_code, prog_9_method_20_code, prog_9_method_21_code, prog_9_method_22_code, prog_9_method_23_code, prog_9_method_24_code, prog_9_method_25_code, prog_9_method_26_code, prog_9_method_27_code, prog_9_method_28_code, prog_9_method_29_code, prog_9_method_30_code, prog_9_method_31_code, prog_9_method_32_code, prog_9_method_33_code, prog_9_method_34_code, prog_9_method_35_code, prog_9_method_36_code, prog_9_method_37_code, prog_9_method_38_code, prog_9_method_39_code, prog_9_method_40_code, prog_9_method_41_code, prog_9_method_42_code, prog_9_method_43_code, prog_9_method_44_code, prog_9_method_45_code, prog_9_method_46_code, prog_9_method_47_code, prog_9_method_48_code, prog_9_method_49_code, prog_9_method_50_code, prog_9_method_51_code, prog_9_method_52_code, prog_9_method_53_code, prog_9_method_54_code, prog_9_method_55_code, prog_9_method_56_code, prog_9_method_57_code, prog_9_method_58_code, prog_9_method_59_code, prog_9_method_60_code, prog_9_method_61_code, prog_9_method_62_code, prog_9_method_63_code, prog_9_method_64_code, prog_9_method_65_code, prog_9_method_66_code, prog_9_method_67_code, prog_9_method_68_code, prog_9_method_69_code, prog_9_method_70_code, prog_9_method_71_code, prog_9_method_72_code, prog_9_method_73_code, prog_9_method_74_code, prog_9_method_75_code, prog_9_method_76_code, prog_9_method_77_code, prog_9_method_78_code, prog_9_method_79_code, prog_9_method_80_code, prog_9_method_81_code, prog_9_method_82_code, prog_9_method_83_code, prog_9_method_84_code, prog_9_method_85_code, prog_9_method_86_code, prog_9_method_87_code, method_3_code, code, prog_14_method_49_code, prog_15_method_50_code, prog_25_method_103_code]
def mNames : List MethodName := [⟨"RenvoiDesk$Deeds", "<init>", "()V"⟩, ⟨"RenvoiDesk$Deeds", "standing", "(LRenvoiDesk$Told;I)I"⟩, ⟨"RenvoiDesk$Deeds", "standsInAll", "(LRenvoiDesk$Told;I)Z"⟩, ⟨"RenvoiDesk$Deeds", "bestChange", "(LRenvoiDesk$Told;II)I"⟩, ⟨"RenvoiDesk$Deeds", "startTrial", "(LRenvoiDesk$Told;)V"⟩, ⟨"RenvoiDesk$Deeds", "canByOne", "(II)Z"⟩, ⟨"RenvoiDesk$Deeds", "canByTwo", "(I)Z"⟩, ⟨"RenvoiDesk$Past", "<init>", "()V"⟩, ⟨"RenvoiDesk$Past", "forget", "()V"⟩, ⟨"RenvoiDesk$Past", "remember", "(LRenvoiDesk$Told;)V"⟩, ⟨"RenvoiDesk$Past", "stepBack", "(LRenvoiDesk$Told;)Z"⟩, ⟨"RenvoiDesk$Past", "lay", "(LRenvoiDesk$Told;I)Z"⟩, ⟨"RenvoiDesk$Past", "goBack", "(LRenvoiDesk$Told;I)Z"⟩, ⟨"RenvoiDesk$Reader", "<init>", "()V"⟩, ⟨"RenvoiDesk$Reader", "wordOf", "(Ljava/lang/String;)I"⟩, ⟨"RenvoiDesk$Reader", "read", "(I)I"⟩, ⟨"RenvoiDesk$Reader", "readLine", "()Z"⟩, ⟨"RenvoiDesk$Reader", "readLand", "()Z"⟩, ⟨"RenvoiDesk$Reader", "readIssue", "()Z"⟩, ⟨"RenvoiDesk$Reader", "readFact", "()Z"⟩, ⟨"RenvoiDesk$Reader", "readDeed", "()Z"⟩, ⟨"RenvoiDesk$Reader", "readRule", "()Z"⟩, ⟨"RenvoiDesk$Reader", "readLaw", "()Z"⟩, ⟨"RenvoiDesk$Reader", "giveName", "(II)Z"⟩, ⟨"RenvoiDesk$Reader", "numberOf", "(I)I"⟩, ⟨"RenvoiDesk$Reader", "takeNumber", "(I)I"⟩, ⟨"RenvoiDesk$Reader", "takeStop", "()Z"⟩, ⟨"RenvoiDesk$Reader", "isName", "()Z"⟩, ⟨"RenvoiDesk$Reader", "keyword", "()I"⟩, ⟨"RenvoiDesk$Reader", "find", "(I)I"⟩, ⟨"RenvoiDesk$Reader", "wrong", "(I)Z"⟩, ⟨"RenvoiDesk$Roads", "<init>", "()V"⟩, ⟨"RenvoiDesk$Roads", "lookAt", "(LRenvoiDesk$Told;I)V"⟩, ⟨"RenvoiDesk$Roads", "cell", "([II)I"⟩, ⟨"RenvoiDesk$Roads", "goesOn", "(I)Z"⟩, ⟨"RenvoiDesk$Roads", "walk", "(I)V"⟩, ⟨"RenvoiDesk$Roads", "stepAt", "(I)I"⟩, ⟨"RenvoiDesk$Roads", "loopSets", "()J"⟩, ⟨"RenvoiDesk$Roads", "loopLands", "()I"⟩, ⟨"RenvoiDesk$Roads", "comesTo", "(II)I"⟩, ⟨"RenvoiDesk$Roads", "comesNear", "(IZ)I"⟩, ⟨"RenvoiDesk$Roads", "ownLand", "(I)I"⟩, ⟨"RenvoiDesk$Roads", "ownAnswer", "(I)I"⟩, ⟨"RenvoiDesk$Roads", "followersOf", "(I)I"⟩, ⟨"RenvoiDesk$Roads", "landsAbove0", "()I"⟩, ⟨"RenvoiDesk$Tape", "<init>", "()V"⟩, ⟨"RenvoiDesk$Tape", "hasRoom", "(I)Z"⟩, ⟨"RenvoiDesk$Tape", "add", "(I)V"⟩, ⟨"RenvoiDesk$Tape", "begin", "(I)V"⟩, ⟨"RenvoiDesk$Tape", "next", "()V"⟩, ⟨"RenvoiDesk$Tape", "readWord", "()V"⟩, ⟨"RenvoiDesk$Tape", "readNumber", "()V"⟩, ⟨"RenvoiDesk$Tape", "withLetter", "(II)I"⟩, ⟨"RenvoiDesk$Tape", "sortOf", "(I)I"⟩, ⟨"RenvoiDesk$Told", "<init>", "()V"⟩, ⟨"RenvoiDesk$Told", "clear", "()V"⟩, ⟨"RenvoiDesk$Told", "copyFrom", "(LRenvoiDesk$Told;)V"⟩, ⟨"RenvoiDesk$Told", "save", "([II)V"⟩, ⟨"RenvoiDesk$Told", "load", "([II)V"⟩, ⟨"RenvoiDesk$Told", "addLand", "(I)V"⟩, ⟨"RenvoiDesk$Told", "addIssue", "()V"⟩, ⟨"RenvoiDesk$Told", "addFact", "(I)V"⟩, ⟨"RenvoiDesk$Told", "addDeed", "(I)V"⟩, ⟨"RenvoiDesk$Told", "hasLand", "(I)Z"⟩, ⟨"RenvoiDesk$Told", "hasIssue", "(I)Z"⟩, ⟨"RenvoiDesk$Told", "hasFact", "(I)Z"⟩, ⟨"RenvoiDesk$Told", "hasDeed", "(I)Z"⟩, ⟨"RenvoiDesk$Told", "hasBoth", "(II)Z"⟩, ⟨"RenvoiDesk$Told", "allLands", "()I"⟩, ⟨"RenvoiDesk$Told", "theoryOf", "(I)I"⟩, ⟨"RenvoiDesk$Told", "setTheoryOf", "(II)V"⟩, ⟨"RenvoiDesk$Told", "landOf", "(I)I"⟩, ⟨"RenvoiDesk$Told", "setLandOf", "(II)V"⟩, ⟨"RenvoiDesk$Told", "issuesOf", "(I)I"⟩, ⟨"RenvoiDesk$Told", "lawOn", "(II)I"⟩, ⟨"RenvoiDesk$Told", "setLawOn", "(III)V"⟩, ⟨"RenvoiDesk$Told", "ruleOn", "(II)I"⟩, ⟨"RenvoiDesk$Told", "setRuleOn", "(IIIZ)V"⟩, ⟨"RenvoiDesk$Told", "factIn", "(I)I"⟩, ⟨"RenvoiDesk$Told", "isWhole", "(I)Z"⟩, ⟨"RenvoiDesk$Told", "rulesOf", "(I)I"⟩, ⟨"RenvoiDesk$Told", "allRules", "()I"⟩, ⟨"RenvoiDesk$Told", "ruledIssues", "(I)I"⟩, ⟨"RenvoiDesk$Told", "headOf", "(I)I"⟩, ⟨"RenvoiDesk$Told", "issuesUnder", "(I)I"⟩, ⟨"RenvoiDesk$Told", "unlikeHeads", "()I"⟩, ⟨"RenvoiDesk$Told", "moveHead", "(II)V"⟩, ⟨"RenvoiDesk$Told", "partFromOthers", "(I)V"⟩, ⟨"RenvoiDesk$Told", "firstOther", "(I)I"⟩, ⟨"RenvoiDesk$Told", "exchange", "(II)V"⟩, ⟨"RenvoiDesk$Told", "swapCells", "(II)V"⟩, ⟨"RenvoiDesk", "<init>", "()V"⟩, ⟨"RenvoiDesk", "feed", "(IIIII)I"⟩, ⟨"RenvoiDesk", "desk", "(I)I"⟩, ⟨"RenvoiDesk", "land", "(II)I"⟩, ⟨"RenvoiDesk", "fact", "(I)I"⟩, ⟨"RenvoiDesk", "rule", "(III)I"⟩, ⟨"RenvoiDesk", "inner", "(II)I"⟩, ⟨"RenvoiDesk", "head", "(I)I"⟩, ⟨"RenvoiDesk", "deed", "(I)I"⟩, ⟨"RenvoiDesk", "road", "(III)I"⟩, ⟨"RenvoiDesk", "ends", "(III)I"⟩, ⟨"RenvoiDesk", "trapped", "(I)I"⟩, ⟨"RenvoiDesk", "loop", "(II)I"⟩, ⟨"RenvoiDesk", "placeOfBit", "(JI)I"⟩, ⟨"RenvoiDesk", "comes", "(III)I"⟩, ⟨"RenvoiDesk", "answer", "(III)I"⟩, ⟨"RenvoiDesk", "isTheoryOrOwn", "(I)Z"⟩, ⟨"RenvoiDesk", "isTheory", "(I)Z"⟩, ⟨"RenvoiDesk", "unlike", "(II)I"⟩, ⟨"RenvoiDesk", "most", "(II)I"⟩, ⟨"RenvoiDesk", "shop", "(II)I"⟩, ⟨"RenvoiDesk", "firstOrSecond", "(III)I"⟩, ⟨"RenvoiDesk", "tally", "(I)J"⟩, ⟨"RenvoiDesk", "stands", "(II)I"⟩, ⟨"RenvoiDesk", "where", "(I)I"⟩, ⟨"RenvoiDesk", "limps", "()I"⟩, ⟨"RenvoiDesk", "best", "(II)I"⟩, ⟨"RenvoiDesk", "fewest", "(I)I"⟩, ⟨"RenvoiDesk", "tie", "(II)I"⟩, ⟨"RenvoiDesk", "think", "(II)I"⟩, ⟨"RenvoiDesk", "point", "(IIIZ)Z"⟩, ⟨"RenvoiDesk", "say", "(III)I"⟩, ⟨"RenvoiDesk", "join", "(II)I"⟩, ⟨"RenvoiDesk", "cut", "(I)I"⟩, ⟨"RenvoiDesk", "mirror", "(II)Z"⟩, ⟨"RenvoiDesk", "undo", "()I"⟩, ⟨"RenvoiDesk", "keep", "(IZ)Z"⟩, ⟨"RenvoiDesk", "count", "(I)I"⟩, ⟨"RenvoiDeskModel", "<init>", "()V"⟩, ⟨"RenvoiDeskModel", "thrown", "()I"⟩, ⟨"RenvoiDeskModel", "within", "(JJJ)Z"⟩, ⟨"RenvoiDeskModel", "puts", "(I)V"⟩, ⟨"RenvoiDeskModel", "feed", "(IIIII)I"⟩, ⟨"RenvoiDeskModel", "see", "(I)I"⟩, ⟨"RenvoiDeskModel", "steps", "()V"⟩, ⟨"RenvoiDeskModel", "must", "(ZI)Z"⟩, ⟨"RenvoiDeskModel", "spelled", "(Ljava/lang/String;)J"⟩, ⟨"RenvoiDeskModel", "is", "(Ljava/lang/String;)Z"⟩, ⟨"RenvoiDeskModel", "isName", "()Z"⟩, ⟨"RenvoiDeskModel", "takesNumber", "(II)Z"⟩, ⟨"RenvoiDeskModel", "manyOf", "(I)I"⟩, ⟨"RenvoiDeskModel", "named", "(I)I"⟩, ⟨"RenvoiDeskModel", "isNamed", "()Z"⟩, ⟨"RenvoiDeskModel", "newName", "()Z"⟩, ⟨"RenvoiDeskModel", "adds", "(IJ)V"⟩, ⟨"RenvoiDeskModel", "takes", "(I)Z"⟩, ⟨"RenvoiDeskModel", "landLine", "()Z"⟩, ⟨"RenvoiDeskModel", "issueLine", "()Z"⟩, ⟨"RenvoiDeskModel", "factLine", "()Z"⟩, ⟨"RenvoiDeskModel", "ruleLine", "()Z"⟩, ⟨"RenvoiDeskModel", "lawLine", "()Z"⟩, ⟨"RenvoiDeskModel", "deedLine", "()Z"⟩, ⟨"RenvoiDeskModel", "lineHere", "()Z"⟩, ⟨"RenvoiDeskModel", "beginsReading", "()V"⟩, ⟨"RenvoiDeskModel", "desk", "(I)I"⟩, ⟨"RenvoiDeskModel", "isLand", "(I)Z"⟩, ⟨"RenvoiDeskModel", "isIssue", "(I)Z"⟩, ⟨"RenvoiDeskModel", "isFact", "(I)Z"⟩, ⟨"RenvoiDeskModel", "isDeed", "(I)Z"⟩, ⟨"RenvoiDeskModel", "ruleOf", "(II)I"⟩, ⟨"RenvoiDeskModel", "rulesOf", "(I)I"⟩, ⟨"RenvoiDeskModel", "ruledBy", "(I)I"⟩, ⟨"RenvoiDeskModel", "land", "(II)I"⟩, ⟨"RenvoiDeskModel", "fact", "(I)I"⟩, ⟨"RenvoiDeskModel", "pointsTo", "(II)I"⟩, ⟨"RenvoiDeskModel", "isWhole", "(II)Z"⟩, ⟨"RenvoiDeskModel", "rule", "(III)I"⟩, ⟨"RenvoiDeskModel", "inner", "(II)I"⟩, ⟨"RenvoiDeskModel", "head", "(I)I"⟩, ⟨"RenvoiDeskModel", "deed", "(I)I"⟩, ⟨"RenvoiDeskModel", "wasThere", "(I)Z"⟩, ⟨"RenvoiDeskModel", "comesTo", "(I)V"⟩, ⟨"RenvoiDeskModel", "laysRoad", "(II)V"⟩, ⟨"RenvoiDeskModel", "road", "(III)I"⟩, ⟨"RenvoiDeskModel", "ends", "(III)I"⟩, ⟨"RenvoiDeskModel", "trapped", "(I)I"⟩, ⟨"RenvoiDeskModel", "loopOf", "(II)I"⟩, ⟨"RenvoiDeskModel", "loop", "(II)I"⟩, ⟨"RenvoiDeskModel", "plainly", "(III)I"⟩, ⟨"RenvoiDeskModel", "comesBy", "(III)I"⟩, ⟨"RenvoiDeskModel", "ownLand", "(II)I"⟩, ⟨"RenvoiDeskModel", "ownAnswer", "(II)I"⟩, ⟨"RenvoiDeskModel", "areSo", "(III)Z"⟩, ⟨"RenvoiDeskModel", "comes", "(III)I"⟩, ⟨"RenvoiDeskModel", "answer", "(III)I"⟩, ⟨"RenvoiDeskModel", "unlike", "(II)I"⟩, ⟨"RenvoiDeskModel", "most", "(II)I"⟩, ⟨"RenvoiDeskModel", "shop", "(II)I"⟩, ⟨"RenvoiDeskModel", "tally", "(I)J"⟩, ⟨"RenvoiDeskModel", "standsIn", "(II)Z"⟩, ⟨"RenvoiDeskModel", "whereOf", "(I)I"⟩, ⟨"RenvoiDeskModel", "allLands", "()I"⟩, ⟨"RenvoiDeskModel", "count1", "(I)I"⟩, ⟨"RenvoiDeskModel", "stands", "(II)I"⟩, ⟨"RenvoiDeskModel", "where", "(I)I"⟩, ⟨"RenvoiDeskModel", "limps", "()I"⟩, ⟨"RenvoiDeskModel", "best", "(II)I"⟩, ⟨"RenvoiDeskModel", "canBe", "(III)Z"⟩, ⟨"RenvoiDeskModel", "fewest", "(I)I"⟩, ⟨"RenvoiDeskModel", "keeps", "()V"⟩, ⟨"RenvoiDeskModel", "becomes", "(II)I"⟩, ⟨"RenvoiDeskModel", "tie", "(II)I"⟩, ⟨"RenvoiDeskModel", "think", "(II)I"⟩, ⟨"RenvoiDeskModel", "point", "(IIIZ)Z"⟩, ⟨"RenvoiDeskModel", "say", "(III)I"⟩, ⟨"RenvoiDeskModel", "headedBy", "(I)I"⟩, ⟨"RenvoiDeskModel", "join", "(II)I"⟩, ⟨"RenvoiDeskModel", "cut", "(I)I"⟩, ⟨"RenvoiDeskModel", "trades", "(II)V"⟩, ⟨"RenvoiDeskModel", "mirror", "(II)Z"⟩, ⟨"RenvoiDeskModel", "undo", "()I"⟩, ⟨"RenvoiDeskModel", "keep", "(IZ)Z"⟩, ⟨"RenvoiDeskModel", "allRules", "()I"⟩, ⟨"RenvoiDeskModel", "heads", "()I"⟩, ⟨"RenvoiDeskModel", "count", "(I)I"⟩, ⟨"RenvoiDeskLaw", "rule", "(LRenvoiDesk;III[J)I"⟩, ⟨"RenvoiDeskLaw", "law", "([I)Z"⟩, ⟨"java/lang/Integer", "bitCount", "(I)I"⟩, ⟨"java/lang/Long", "bitCount", "(J)I"⟩, ⟨"java/util/Arrays", "fill", "([II)V"⟩]
def mOwn (j : Nat) : Nat := mOwns.getD j 0
def mMaxL (j : Nat) : Nat := mMaxLs.getD j 0
def mKind (j : Nat) : Nat := mKinds.getD j 0
def mArg (j : Nat) : Nat := mArgs.getD j 0
def mRet (j : Nat) : Option FieldType := mRets.getD j none
def mC (j : Nat) : Nat := mCs.getD j 0
def mS (j : Nat) : Nat := mSs.getD j 0
def mCode (j : Nat) : ByteArray := mCodes.getD j ByteArray.empty
def mName (j : Nat) : MethodName := mNames.getD j ⟨"", "", ""⟩
/-- a method of the system, as the tables have it -/
def mOK (j : Nat) : Prop := Cond.code (mName j) (mCode j) (mMaxL j) (mRet j) ∈ gtbl ∧ (mName j).cls = oName (mOwn j) ∧ Cond.initialized (oName (mOwn j)) ∈ gtbl ∧ (oName (mOwn j) ≠ "java/lang/invoke/MethodHandle" ∧ oName (mOwn j) ≠ "java/lang/invoke/VarHandle") ∧ plainName (oName (mOwn j)) = true ∧ (parseMethodDescriptor (mName j).desc).map (fun d => d.parameters.length) = some (mArg j) ∧
  (mKind j = 0 → Cond.instanceMethod (mName j) ∈ gtbl ∧ Cond.selects (oName (mOwn j)) (mName j) (mName j) ∈ gtbl) ∧ (mKind j = 1 → Cond.static (mName j) ∈ gtbl) ∧ (mKind j = 2 → Cond.instanceMethod (mName j) ∈ gtbl ∧ (mName j).name = "<init>") ∧ (mKind j = 0 ∨ mKind j = 1 ∨ mKind j = 2)
set_option maxRecDepth 20000 in
theorem mw_0 : mOK 0 := ⟨tb2 0 rfl rfl, rfl, tb1 10 rfl rfl, ⟨by decide +kernel, by decide +kernel⟩, by decide +kernel, by decide +kernel, fun h => absurd h (by decide), fun h => absurd h (by decide), fun _ => ⟨tb1 239 rfl rfl, rfl⟩, Or.inr (Or.inr rfl)⟩
set_option maxRecDepth 20000 in
theorem mw_1 : mOK 1 := ⟨tb3 163 rfl rfl, rfl, tb1 10 rfl rfl, ⟨by decide +kernel, by decide +kernel⟩, by decide +kernel, by decide +kernel, fun _ => ⟨tb3 161 rfl rfl, tb3 162 rfl rfl⟩, fun h => absurd h (by decide), fun h => absurd h (by decide), Or.inl rfl⟩
set_option maxRecDepth 20000 in
theorem mw_2 : mOK 2 := ⟨tb3 221 rfl rfl, rfl, tb1 10 rfl rfl, ⟨by decide +kernel, by decide +kernel⟩, by decide +kernel, by decide +kernel, fun _ => ⟨tb3 219 rfl rfl, tb3 220 rfl rfl⟩, fun h => absurd h (by decide), fun h => absurd h (by decide), Or.inl rfl⟩
set_option maxRecDepth 20000 in
theorem mw_3 : mOK 3 := ⟨tb3 190 rfl rfl, rfl, tb1 10 rfl rfl, ⟨by decide +kernel, by decide +kernel⟩, by decide +kernel, by decide +kernel, fun _ => ⟨tb3 188 rfl rfl, tb3 189 rfl rfl⟩, fun h => absurd h (by decide), fun h => absurd h (by decide), Or.inl rfl⟩
set_option maxRecDepth 20000 in
theorem mw_4 : mOK 4 := ⟨tb3 194 rfl rfl, rfl, tb1 10 rfl rfl, ⟨by decide +kernel, by decide +kernel⟩, by decide +kernel, by decide +kernel, fun _ => ⟨tb3 192 rfl rfl, tb3 193 rfl rfl⟩, fun h => absurd h (by decide), fun h => absurd h (by decide), Or.inl rfl⟩
set_option maxRecDepth 20000 in
theorem mw_5 : mOK 5 := ⟨tb3 226 rfl rfl, rfl, tb1 10 rfl rfl, ⟨by decide +kernel, by decide +kernel⟩, by decide +kernel, by decide +kernel, fun _ => ⟨tb3 224 rfl rfl, tb3 225 rfl rfl⟩, fun h => absurd h (by decide), fun h => absurd h (by decide), Or.inl rfl⟩
set_option maxRecDepth 20000 in
theorem mw_6 : mOK 6 := ⟨tb3 231 rfl rfl, rfl, tb1 10 rfl rfl, ⟨by decide +kernel, by decide +kernel⟩, by decide +kernel, by decide +kernel, fun _ => ⟨tb3 229 rfl rfl, tb3 230 rfl rfl⟩, fun h => absurd h (by decide), fun h => absurd h (by decide), Or.inl rfl⟩
set_option maxRecDepth 20000 in
theorem mw_7 : mOK 7 := ⟨tb2 17 rfl rfl, rfl, tb1 11 rfl rfl, ⟨by decide +kernel, by decide +kernel⟩, by decide +kernel, by decide +kernel, fun h => absurd h (by decide), fun h => absurd h (by decide), fun _ => ⟨tb2 16 rfl rfl, rfl⟩, Or.inr (Or.inr rfl)⟩
set_option maxRecDepth 20000 in
theorem mw_8 : mOK 8 := ⟨tb2 213 rfl rfl, rfl, tb1 11 rfl rfl, ⟨by decide +kernel, by decide +kernel⟩, by decide +kernel, by decide +kernel, fun _ => ⟨tb2 211 rfl rfl, tb2 212 rfl rfl⟩, fun h => absurd h (by decide), fun h => absurd h (by decide), Or.inl rfl⟩
set_option maxRecDepth 20000 in
theorem mw_9 : mOK 9 := ⟨tb4 1 rfl rfl, rfl, tb1 11 rfl rfl, ⟨by decide +kernel, by decide +kernel⟩, by decide +kernel, by decide +kernel, fun _ => ⟨tb3 239 rfl rfl, tb4 0 rfl rfl⟩, fun h => absurd h (by decide), fun h => absurd h (by decide), Or.inl rfl⟩
set_option maxRecDepth 20000 in
theorem mw_10 : mOK 10 := ⟨tb4 72 rfl rfl, rfl, tb1 11 rfl rfl, ⟨by decide +kernel, by decide +kernel⟩, by decide +kernel, by decide +kernel, fun _ => ⟨tb4 70 rfl rfl, tb4 71 rfl rfl⟩, fun h => absurd h (by decide), fun h => absurd h (by decide), Or.inl rfl⟩
set_option maxRecDepth 20000 in
theorem mw_11 : mOK 11 := ⟨tb4 88 rfl rfl, rfl, tb1 11 rfl rfl, ⟨by decide +kernel, by decide +kernel⟩, by decide +kernel, by decide +kernel, fun _ => ⟨tb4 86 rfl rfl, tb4 87 rfl rfl⟩, fun h => absurd h (by decide), fun h => absurd h (by decide), Or.inl rfl⟩
set_option maxRecDepth 20000 in
theorem mw_12 : mOK 12 := ⟨tb4 84 rfl rfl, rfl, tb1 11 rfl rfl, ⟨by decide +kernel, by decide +kernel⟩, by decide +kernel, by decide +kernel, fun _ => ⟨tb4 82 rfl rfl, tb4 83 rfl rfl⟩, fun h => absurd h (by decide), fun h => absurd h (by decide), Or.inl rfl⟩
set_option maxRecDepth 20000 in
theorem mw_13 : mOK 13 := ⟨tb1 34 rfl rfl, rfl, tb1 2 rfl rfl, ⟨by decide +kernel, by decide +kernel⟩, by decide +kernel, by decide +kernel, fun h => absurd h (by decide), fun h => absurd h (by decide), fun _ => ⟨tb1 33 rfl rfl, rfl⟩, Or.inr (Or.inr rfl)⟩
set_option maxRecDepth 20000 in
theorem mw_14 : mOK 14 := ⟨tb1 110 rfl rfl, rfl, tb1 2 rfl rfl, ⟨by decide +kernel, by decide +kernel⟩, by decide +kernel, by decide +kernel, fun h => absurd h (by decide), fun _ => tb1 109 rfl rfl, fun h => absurd h (by decide), Or.inr (Or.inl rfl)⟩
set_option maxRecDepth 20000 in
theorem mw_15 : mOK 15 := ⟨tb2 76 rfl rfl, rfl, tb1 2 rfl rfl, ⟨by decide +kernel, by decide +kernel⟩, by decide +kernel, by decide +kernel, fun _ => ⟨tb2 74 rfl rfl, tb2 75 rfl rfl⟩, fun h => absurd h (by decide), fun h => absurd h (by decide), Or.inl rfl⟩
set_option maxRecDepth 20000 in
theorem mw_16 : mOK 16 := ⟨tb2 113 rfl rfl, rfl, tb1 2 rfl rfl, ⟨by decide +kernel, by decide +kernel⟩, by decide +kernel, by decide +kernel, fun _ => ⟨tb2 112 rfl rfl, tbp (n := 9) (List.mem_append_left _ (List.mem_of_getElem? (l := lw_privs_1) (i := 2) rfl)) rfl⟩, fun h => absurd h (by decide), fun h => absurd h (by decide), Or.inl rfl⟩
set_option maxRecDepth 20000 in
theorem mw_17 : mOK 17 := ⟨tb2 121 rfl rfl, rfl, tb1 2 rfl rfl, ⟨by decide +kernel, by decide +kernel⟩, by decide +kernel, by decide +kernel, fun _ => ⟨tb2 120 rfl rfl, tbp (n := 9) (List.mem_append_left _ (List.mem_of_getElem? (l := lw_privs_1) (i := 4) rfl)) rfl⟩, fun h => absurd h (by decide), fun h => absurd h (by decide), Or.inl rfl⟩
set_option maxRecDepth 20000 in
theorem mw_18 : mOK 18 := ⟨tb2 153 rfl rfl, rfl, tb1 2 rfl rfl, ⟨by decide +kernel, by decide +kernel⟩, by decide +kernel, by decide +kernel, fun _ => ⟨tb2 152 rfl rfl, tbp (n := 9) (List.mem_append_left _ (List.mem_of_getElem? (l := lw_privs_1) (i := 11) rfl)) rfl⟩, fun h => absurd h (by decide), fun h => absurd h (by decide), Or.inl rfl⟩
set_option maxRecDepth 20000 in
theorem mw_19 : mOK 19 := ⟨tb2 161 rfl rfl, rfl, tb1 2 rfl rfl, ⟨by decide +kernel, by decide +kernel⟩, by decide +kernel, by decide +kernel, fun _ => ⟨tb2 160 rfl rfl, tbp (n := 9) (List.mem_append_left _ (List.mem_of_getElem? (l := lw_privs_1) (i := 12) rfl)) rfl⟩, fun h => absurd h (by decide), fun h => absurd h (by decide), Or.inl rfl⟩
set_option maxRecDepth 20000 in
theorem mw_20 : mOK 20 := ⟨tb2 173 rfl rfl, rfl, tb1 2 rfl rfl, ⟨by decide +kernel, by decide +kernel⟩, by decide +kernel, by decide +kernel, fun _ => ⟨tb2 172 rfl rfl, tbp (n := 9) (List.mem_append_left _ (List.mem_of_getElem? (l := lw_privs_1) (i := 14) rfl)) rfl⟩, fun h => absurd h (by decide), fun h => absurd h (by decide), Or.inl rfl⟩
set_option maxRecDepth 20000 in
theorem mw_21 : mOK 21 := ⟨tb2 181 rfl rfl, rfl, tb1 2 rfl rfl, ⟨by decide +kernel, by decide +kernel⟩, by decide +kernel, by decide +kernel, fun _ => ⟨tb2 180 rfl rfl, tbp (n := 9) (List.mem_append_left _ (List.mem_of_getElem? (l := lw_privs_1) (i := 15) rfl)) rfl⟩, fun h => absurd h (by decide), fun h => absurd h (by decide), Or.inl rfl⟩
set_option maxRecDepth 20000 in
theorem mw_22 : mOK 22 := ⟨tb2 205 rfl rfl, rfl, tb1 2 rfl rfl, ⟨by decide +kernel, by decide +kernel⟩, by decide +kernel, by decide +kernel, fun _ => ⟨tb2 204 rfl rfl, tbp (n := 9) (List.mem_append_right _ (List.mem_append_left _ (List.mem_of_getElem? (l := lw_privs_2) (i := 0) rfl))) rfl⟩, fun h => absurd h (by decide), fun h => absurd h (by decide), Or.inl rfl⟩
set_option maxRecDepth 20000 in
theorem mw_23 : mOK 23 := ⟨tb2 129 rfl rfl, rfl, tb1 2 rfl rfl, ⟨by decide +kernel, by decide +kernel⟩, by decide +kernel, by decide +kernel, fun _ => ⟨tb2 128 rfl rfl, tbp (n := 9) (List.mem_append_left _ (List.mem_of_getElem? (l := lw_privs_1) (i := 6) rfl)) rfl⟩, fun h => absurd h (by decide), fun h => absurd h (by decide), Or.inl rfl⟩
set_option maxRecDepth 20000 in
theorem mw_24 : mOK 24 := ⟨tb2 165 rfl rfl, rfl, tb1 2 rfl rfl, ⟨by decide +kernel, by decide +kernel⟩, by decide +kernel, by decide +kernel, fun _ => ⟨tb2 164 rfl rfl, tbp (n := 9) (List.mem_append_left _ (List.mem_of_getElem? (l := lw_privs_1) (i := 13) rfl)) rfl⟩, fun h => absurd h (by decide), fun h => absurd h (by decide), Or.inl rfl⟩
set_option maxRecDepth 20000 in
theorem mw_25 : mOK 25 := ⟨tb2 141 rfl rfl, rfl, tb1 2 rfl rfl, ⟨by decide +kernel, by decide +kernel⟩, by decide +kernel, by decide +kernel, fun _ => ⟨tb2 140 rfl rfl, tbp (n := 9) (List.mem_append_left _ (List.mem_of_getElem? (l := lw_privs_1) (i := 9) rfl)) rfl⟩, fun h => absurd h (by decide), fun h => absurd h (by decide), Or.inl rfl⟩
set_option maxRecDepth 20000 in
theorem mw_26 : mOK 26 := ⟨tb2 149 rfl rfl, rfl, tb1 2 rfl rfl, ⟨by decide +kernel, by decide +kernel⟩, by decide +kernel, by decide +kernel, fun _ => ⟨tb2 148 rfl rfl, tbp (n := 9) (List.mem_append_left _ (List.mem_of_getElem? (l := lw_privs_1) (i := 10) rfl)) rfl⟩, fun h => absurd h (by decide), fun h => absurd h (by decide), Or.inl rfl⟩
set_option maxRecDepth 20000 in
theorem mw_27 : mOK 27 := ⟨tb2 133 rfl rfl, rfl, tb1 2 rfl rfl, ⟨by decide +kernel, by decide +kernel⟩, by decide +kernel, by decide +kernel, fun _ => ⟨tb2 132 rfl rfl, tbp (n := 9) (List.mem_append_left _ (List.mem_of_getElem? (l := lw_privs_1) (i := 7) rfl)) rfl⟩, fun h => absurd h (by decide), fun h => absurd h (by decide), Or.inl rfl⟩
set_option maxRecDepth 20000 in
theorem mw_28 : mOK 28 := ⟨tb2 117 rfl rfl, rfl, tb1 2 rfl rfl, ⟨by decide +kernel, by decide +kernel⟩, by decide +kernel, by decide +kernel, fun _ => ⟨tb2 116 rfl rfl, tbp (n := 9) (List.mem_append_left _ (List.mem_of_getElem? (l := lw_privs_1) (i := 3) rfl)) rfl⟩, fun h => absurd h (by decide), fun h => absurd h (by decide), Or.inl rfl⟩
set_option maxRecDepth 20000 in
theorem mw_29 : mOK 29 := ⟨tb2 137 rfl rfl, rfl, tb1 2 rfl rfl, ⟨by decide +kernel, by decide +kernel⟩, by decide +kernel, by decide +kernel, fun _ => ⟨tb2 136 rfl rfl, tbp (n := 9) (List.mem_append_left _ (List.mem_of_getElem? (l := lw_privs_1) (i := 8) rfl)) rfl⟩, fun h => absurd h (by decide), fun h => absurd h (by decide), Or.inl rfl⟩
set_option maxRecDepth 20000 in
theorem mw_30 : mOK 30 := ⟨tb2 125 rfl rfl, rfl, tb1 2 rfl rfl, ⟨by decide +kernel, by decide +kernel⟩, by decide +kernel, by decide +kernel, fun _ => ⟨tb2 124 rfl rfl, tbp (n := 9) (List.mem_append_left _ (List.mem_of_getElem? (l := lw_privs_1) (i := 5) rfl)) rfl⟩, fun h => absurd h (by decide), fun h => absurd h (by decide), Or.inl rfl⟩
set_option maxRecDepth 20000 in
theorem mw_31 : mOK 31 := ⟨tb1 203 rfl rfl, rfl, tb1 9 rfl rfl, ⟨by decide +kernel, by decide +kernel⟩, by decide +kernel, by decide +kernel, fun h => absurd h (by decide), fun h => absurd h (by decide), fun _ => ⟨tb1 202 rfl rfl, rfl⟩, Or.inr (Or.inr rfl)⟩
set_option maxRecDepth 20000 in
theorem mw_32 : mOK 32 := ⟨tb3 41 rfl rfl, rfl, tb1 9 rfl rfl, ⟨by decide +kernel, by decide +kernel⟩, by decide +kernel, by decide +kernel, fun _ => ⟨tb3 39 rfl rfl, tb3 40 rfl rfl⟩, fun h => absurd h (by decide), fun h => absurd h (by decide), Or.inl rfl⟩
set_option maxRecDepth 20000 in
theorem mw_33 : mOK 33 := ⟨tb3 59 rfl rfl, rfl, tb1 9 rfl rfl, ⟨by decide +kernel, by decide +kernel⟩, by decide +kernel, by decide +kernel, fun h => absurd h (by decide), fun _ => tb3 58 rfl rfl, fun h => absurd h (by decide), Or.inr (Or.inl rfl)⟩
set_option maxRecDepth 20000 in
theorem mw_34 : mOK 34 := ⟨tb3 63 rfl rfl, rfl, tb1 9 rfl rfl, ⟨by decide +kernel, by decide +kernel⟩, by decide +kernel, by decide +kernel, fun _ => ⟨tb3 62 rfl rfl, tbp (n := 9) (List.mem_append_right _ (List.mem_append_left _ (List.mem_of_getElem? (l := lw_privs_2) (i := 1) rfl))) rfl⟩, fun h => absurd h (by decide), fun h => absurd h (by decide), Or.inl rfl⟩
set_option maxRecDepth 20000 in
theorem mw_35 : mOK 35 := ⟨tb3 56 rfl rfl, rfl, tb1 9 rfl rfl, ⟨by decide +kernel, by decide +kernel⟩, by decide +kernel, by decide +kernel, fun _ => ⟨tb3 54 rfl rfl, tb3 55 rfl rfl⟩, fun h => absurd h (by decide), fun h => absurd h (by decide), Or.inl rfl⟩
set_option maxRecDepth 20000 in
theorem mw_36 : mOK 36 := ⟨tb3 67 rfl rfl, rfl, tb1 9 rfl rfl, ⟨by decide +kernel, by decide +kernel⟩, by decide +kernel, by decide +kernel, fun _ => ⟨tb3 65 rfl rfl, tb3 66 rfl rfl⟩, fun h => absurd h (by decide), fun h => absurd h (by decide), Or.inl rfl⟩
set_option maxRecDepth 20000 in
theorem mw_37 : mOK 37 := ⟨tb3 84 rfl rfl, rfl, tb1 9 rfl rfl, ⟨by decide +kernel, by decide +kernel⟩, by decide +kernel, by decide +kernel, fun _ => ⟨tb3 82 rfl rfl, tb3 83 rfl rfl⟩, fun h => absurd h (by decide), fun h => absurd h (by decide), Or.inl rfl⟩
set_option maxRecDepth 20000 in
theorem mw_38 : mOK 38 := ⟨tb3 89 rfl rfl, rfl, tb1 9 rfl rfl, ⟨by decide +kernel, by decide +kernel⟩, by decide +kernel, by decide +kernel, fun _ => ⟨tb3 88 rfl rfl, tbp (n := 9) (List.mem_append_right _ (List.mem_append_left _ (List.mem_of_getElem? (l := lw_privs_2) (i := 2) rfl))) rfl⟩, fun h => absurd h (by decide), fun h => absurd h (by decide), Or.inl rfl⟩
set_option maxRecDepth 20000 in
theorem mw_39 : mOK 39 := ⟨tb3 116 rfl rfl, rfl, tb1 9 rfl rfl, ⟨by decide +kernel, by decide +kernel⟩, by decide +kernel, by decide +kernel, fun _ => ⟨tb3 114 rfl rfl, tb3 115 rfl rfl⟩, fun h => absurd h (by decide), fun h => absurd h (by decide), Or.inl rfl⟩
set_option maxRecDepth 20000 in
theorem mw_40 : mOK 40 := ⟨tb3 120 rfl rfl, rfl, tb1 9 rfl rfl, ⟨by decide +kernel, by decide +kernel⟩, by decide +kernel, by decide +kernel, fun _ => ⟨tb3 119 rfl rfl, tbp (n := 9) (List.mem_append_right _ (List.mem_append_left _ (List.mem_of_getElem? (l := lw_privs_2) (i := 3) rfl))) rfl⟩, fun h => absurd h (by decide), fun h => absurd h (by decide), Or.inl rfl⟩
set_option maxRecDepth 20000 in
theorem mw_41 : mOK 41 := ⟨tb3 112 rfl rfl, rfl, tb1 9 rfl rfl, ⟨by decide +kernel, by decide +kernel⟩, by decide +kernel, by decide +kernel, fun _ => ⟨tb3 110 rfl rfl, tb3 111 rfl rfl⟩, fun h => absurd h (by decide), fun h => absurd h (by decide), Or.inl rfl⟩
set_option maxRecDepth 20000 in
theorem mw_42 : mOK 42 := ⟨tb3 129 rfl rfl, rfl, tb1 9 rfl rfl, ⟨by decide +kernel, by decide +kernel⟩, by decide +kernel, by decide +kernel, fun _ => ⟨tb3 127 rfl rfl, tb3 128 rfl rfl⟩, fun h => absurd h (by decide), fun h => absurd h (by decide), Or.inl rfl⟩
set_option maxRecDepth 20000 in
theorem mw_43 : mOK 43 := ⟨tb3 142 rfl rfl, rfl, tb1 9 rfl rfl, ⟨by decide +kernel, by decide +kernel⟩, by decide +kernel, by decide +kernel, fun _ => ⟨tb3 140 rfl rfl, tb3 141 rfl rfl⟩, fun h => absurd h (by decide), fun h => absurd h (by decide), Or.inl rfl⟩
set_option maxRecDepth 20000 in
theorem mw_44 : mOK 44 := ⟨tb3 173 rfl rfl, rfl, tb1 9 rfl rfl, ⟨by decide +kernel, by decide +kernel⟩, by decide +kernel, by decide +kernel, fun _ => ⟨tb3 171 rfl rfl, tb3 172 rfl rfl⟩, fun h => absurd h (by decide), fun h => absurd h (by decide), Or.inl rfl⟩
set_option maxRecDepth 20000 in
theorem mw_45 : mOK 45 := ⟨tb1 40 rfl rfl, rfl, tb1 3 rfl rfl, ⟨by decide +kernel, by decide +kernel⟩, by decide +kernel, by decide +kernel, fun h => absurd h (by decide), fun h => absurd h (by decide), fun _ => ⟨tb1 39 rfl rfl, rfl⟩, Or.inr (Or.inr rfl)⟩
set_option maxRecDepth 20000 in
theorem mw_46 : mOK 46 := ⟨tb2 64 rfl rfl, rfl, tb1 3 rfl rfl, ⟨by decide +kernel, by decide +kernel⟩, by decide +kernel, by decide +kernel, fun _ => ⟨tb2 62 rfl rfl, tb2 63 rfl rfl⟩, fun h => absurd h (by decide), fun h => absurd h (by decide), Or.inl rfl⟩
set_option maxRecDepth 20000 in
theorem mw_47 : mOK 47 := ⟨tb2 68 rfl rfl, rfl, tb1 3 rfl rfl, ⟨by decide +kernel, by decide +kernel⟩, by decide +kernel, by decide +kernel, fun _ => ⟨tb2 66 rfl rfl, tb2 67 rfl rfl⟩, fun h => absurd h (by decide), fun h => absurd h (by decide), Or.inl rfl⟩
set_option maxRecDepth 20000 in
theorem mw_48 : mOK 48 := ⟨tb2 87 rfl rfl, rfl, tb1 3 rfl rfl, ⟨by decide +kernel, by decide +kernel⟩, by decide +kernel, by decide +kernel, fun _ => ⟨tb2 85 rfl rfl, tb2 86 rfl rfl⟩, fun h => absurd h (by decide), fun h => absurd h (by decide), Or.inl rfl⟩
set_option maxRecDepth 20000 in
theorem mw_49 : mOK 49 := ⟨tb2 97 rfl rfl, rfl, tb1 3 rfl rfl, ⟨by decide +kernel, by decide +kernel⟩, by decide +kernel, by decide +kernel, fun _ => ⟨tb2 95 rfl rfl, tb2 96 rfl rfl⟩, fun h => absurd h (by decide), fun h => absurd h (by decide), Or.inl rfl⟩
set_option maxRecDepth 20000 in
theorem mw_50 : mOK 50 := ⟨tb2 104 rfl rfl, rfl, tb1 3 rfl rfl, ⟨by decide +kernel, by decide +kernel⟩, by decide +kernel, by decide +kernel, fun _ => ⟨tb2 103 rfl rfl, tbp (n := 7) (List.mem_append_left _ (List.mem_of_getElem? (l := lw_privs_1) (i := 0) rfl)) rfl⟩, fun h => absurd h (by decide), fun h => absurd h (by decide), Or.inl rfl⟩
set_option maxRecDepth 20000 in
theorem mw_51 : mOK 51 := ⟨tb2 109 rfl rfl, rfl, tb1 3 rfl rfl, ⟨by decide +kernel, by decide +kernel⟩, by decide +kernel, by decide +kernel, fun _ => ⟨tb2 108 rfl rfl, tbp (n := 7) (List.mem_append_left _ (List.mem_of_getElem? (l := lw_privs_1) (i := 1) rfl)) rfl⟩, fun h => absurd h (by decide), fun h => absurd h (by decide), Or.inl rfl⟩
set_option maxRecDepth 20000 in
theorem mw_52 : mOK 52 := ⟨tb1 161 rfl rfl, rfl, tb1 3 rfl rfl, ⟨by decide +kernel, by decide +kernel⟩, by decide +kernel, by decide +kernel, fun h => absurd h (by decide), fun _ => tb1 160 rfl rfl, fun h => absurd h (by decide), Or.inr (Or.inl rfl)⟩
set_option maxRecDepth 20000 in
theorem mw_53 : mOK 53 := ⟨tb2 100 rfl rfl, rfl, tb1 3 rfl rfl, ⟨by decide +kernel, by decide +kernel⟩, by decide +kernel, by decide +kernel, fun h => absurd h (by decide), fun _ => tb2 99 rfl rfl, fun h => absurd h (by decide), Or.inr (Or.inl rfl)⟩
set_option maxRecDepth 20000 in
theorem mw_54 : mOK 54 := ⟨tb1 73 rfl rfl, rfl, tb1 4 rfl rfl, ⟨by decide +kernel, by decide +kernel⟩, by decide +kernel, by decide +kernel, fun h => absurd h (by decide), fun h => absurd h (by decide), fun _ => ⟨tb1 72 rfl rfl, rfl⟩, Or.inr (Or.inr rfl)⟩
set_option maxRecDepth 20000 in
theorem mw_55 : mOK 55 := ⟨tb2 80 rfl rfl, rfl, tb1 4 rfl rfl, ⟨by decide +kernel, by decide +kernel⟩, by decide +kernel, by decide +kernel, fun _ => ⟨tb2 78 rfl rfl, tb2 79 rfl rfl⟩, fun h => absurd h (by decide), fun h => absurd h (by decide), Or.inl rfl⟩
set_option maxRecDepth 20000 in
theorem mw_56 : mOK 56 := ⟨tb3 198 rfl rfl, rfl, tb1 4 rfl rfl, ⟨by decide +kernel, by decide +kernel⟩, by decide +kernel, by decide +kernel, fun _ => ⟨tb3 196 rfl rfl, tb3 197 rfl rfl⟩, fun h => absurd h (by decide), fun h => absurd h (by decide), Or.inl rfl⟩
set_option maxRecDepth 20000 in
theorem mw_57 : mOK 57 := ⟨tb4 5 rfl rfl, rfl, tb1 4 rfl rfl, ⟨by decide +kernel, by decide +kernel⟩, by decide +kernel, by decide +kernel, fun _ => ⟨tb4 3 rfl rfl, tb4 4 rfl rfl⟩, fun h => absurd h (by decide), fun h => absurd h (by decide), Or.inl rfl⟩
set_option maxRecDepth 20000 in
theorem mw_58 : mOK 58 := ⟨tb4 76 rfl rfl, rfl, tb1 4 rfl rfl, ⟨by decide +kernel, by decide +kernel⟩, by decide +kernel, by decide +kernel, fun _ => ⟨tb4 74 rfl rfl, tb4 75 rfl rfl⟩, fun h => absurd h (by decide), fun h => absurd h (by decide), Or.inl rfl⟩
set_option maxRecDepth 20000 in
theorem mw_59 : mOK 59 := ⟨tb2 145 rfl rfl, rfl, tb1 4 rfl rfl, ⟨by decide +kernel, by decide +kernel⟩, by decide +kernel, by decide +kernel, fun _ => ⟨tb2 143 rfl rfl, tb2 144 rfl rfl⟩, fun h => absurd h (by decide), fun h => absurd h (by decide), Or.inl rfl⟩
set_option maxRecDepth 20000 in
theorem mw_60 : mOK 60 := ⟨tb2 157 rfl rfl, rfl, tb1 4 rfl rfl, ⟨by decide +kernel, by decide +kernel⟩, by decide +kernel, by decide +kernel, fun _ => ⟨tb2 155 rfl rfl, tb2 156 rfl rfl⟩, fun h => absurd h (by decide), fun h => absurd h (by decide), Or.inl rfl⟩
set_option maxRecDepth 20000 in
theorem mw_61 : mOK 61 := ⟨tb2 169 rfl rfl, rfl, tb1 4 rfl rfl, ⟨by decide +kernel, by decide +kernel⟩, by decide +kernel, by decide +kernel, fun _ => ⟨tb2 167 rfl rfl, tb2 168 rfl rfl⟩, fun h => absurd h (by decide), fun h => absurd h (by decide), Or.inl rfl⟩
set_option maxRecDepth 20000 in
theorem mw_62 : mOK 62 := ⟨tb2 177 rfl rfl, rfl, tb1 4 rfl rfl, ⟨by decide +kernel, by decide +kernel⟩, by decide +kernel, by decide +kernel, fun _ => ⟨tb2 175 rfl rfl, tb2 176 rfl rfl⟩, fun h => absurd h (by decide), fun h => absurd h (by decide), Or.inl rfl⟩
set_option maxRecDepth 20000 in
theorem mw_63 : mOK 63 := ⟨tb2 193 rfl rfl, rfl, tb1 4 rfl rfl, ⟨by decide +kernel, by decide +kernel⟩, by decide +kernel, by decide +kernel, fun _ => ⟨tb2 191 rfl rfl, tb2 192 rfl rfl⟩, fun h => absurd h (by decide), fun h => absurd h (by decide), Or.inl rfl⟩
set_option maxRecDepth 20000 in
theorem mw_64 : mOK 64 := ⟨tb2 197 rfl rfl, rfl, tb1 4 rfl rfl, ⟨by decide +kernel, by decide +kernel⟩, by decide +kernel, by decide +kernel, fun _ => ⟨tb2 195 rfl rfl, tb2 196 rfl rfl⟩, fun h => absurd h (by decide), fun h => absurd h (by decide), Or.inl rfl⟩
set_option maxRecDepth 20000 in
theorem mw_65 : mOK 65 := ⟨tb3 7 rfl rfl, rfl, tb1 4 rfl rfl, ⟨by decide +kernel, by decide +kernel⟩, by decide +kernel, by decide +kernel, fun _ => ⟨tb3 5 rfl rfl, tb3 6 rfl rfl⟩, fun h => absurd h (by decide), fun h => absurd h (by decide), Or.inl rfl⟩
set_option maxRecDepth 20000 in
theorem mw_66 : mOK 66 := ⟨tb3 32 rfl rfl, rfl, tb1 4 rfl rfl, ⟨by decide +kernel, by decide +kernel⟩, by decide +kernel, by decide +kernel, fun _ => ⟨tb3 30 rfl rfl, tb3 31 rfl rfl⟩, fun h => absurd h (by decide), fun h => absurd h (by decide), Or.inl rfl⟩
set_option maxRecDepth 20000 in
theorem mw_67 : mOK 67 := ⟨tb2 189 rfl rfl, rfl, tb1 4 rfl rfl, ⟨by decide +kernel, by decide +kernel⟩, by decide +kernel, by decide +kernel, fun _ => ⟨tb2 187 rfl rfl, tb2 188 rfl rfl⟩, fun h => absurd h (by decide), fun h => absurd h (by decide), Or.inl rfl⟩
set_option maxRecDepth 20000 in
theorem mw_68 : mOK 68 := ⟨tb3 168 rfl rfl, rfl, tb1 4 rfl rfl, ⟨by decide +kernel, by decide +kernel⟩, by decide +kernel, by decide +kernel, fun _ => ⟨tb3 166 rfl rfl, tb3 167 rfl rfl⟩, fun h => absurd h (by decide), fun h => absurd h (by decide), Or.inl rfl⟩
set_option maxRecDepth 20000 in
theorem mw_69 : mOK 69 := ⟨tb2 222 rfl rfl, rfl, tb1 4 rfl rfl, ⟨by decide +kernel, by decide +kernel⟩, by decide +kernel, by decide +kernel, fun _ => ⟨tb2 220 rfl rfl, tb2 221 rfl rfl⟩, fun h => absurd h (by decide), fun h => absurd h (by decide), Or.inl rfl⟩
set_option maxRecDepth 20000 in
theorem mw_70 : mOK 70 := ⟨tb4 15 rfl rfl, rfl, tb1 4 rfl rfl, ⟨by decide +kernel, by decide +kernel⟩, by decide +kernel, by decide +kernel, fun _ => ⟨tb4 13 rfl rfl, tb4 14 rfl rfl⟩, fun h => absurd h (by decide), fun h => absurd h (by decide), Or.inl rfl⟩
set_option maxRecDepth 20000 in
theorem mw_71 : mOK 71 := ⟨tb3 3 rfl rfl, rfl, tb1 4 rfl rfl, ⟨by decide +kernel, by decide +kernel⟩, by decide +kernel, by decide +kernel, fun _ => ⟨tb3 1 rfl rfl, tb3 2 rfl rfl⟩, fun h => absurd h (by decide), fun h => absurd h (by decide), Or.inl rfl⟩
set_option maxRecDepth 20000 in
theorem mw_72 : mOK 72 := ⟨tb3 206 rfl rfl, rfl, tb1 4 rfl rfl, ⟨by decide +kernel, by decide +kernel⟩, by decide +kernel, by decide +kernel, fun _ => ⟨tb3 204 rfl rfl, tb3 205 rfl rfl⟩, fun h => absurd h (by decide), fun h => absurd h (by decide), Or.inl rfl⟩
set_option maxRecDepth 20000 in
theorem mw_73 : mOK 73 := ⟨tb3 28 rfl rfl, rfl, tb1 4 rfl rfl, ⟨by decide +kernel, by decide +kernel⟩, by decide +kernel, by decide +kernel, fun _ => ⟨tb3 26 rfl rfl, tb3 27 rfl rfl⟩, fun h => absurd h (by decide), fun h => absurd h (by decide), Or.inl rfl⟩
set_option maxRecDepth 20000 in
theorem mw_74 : mOK 74 := ⟨tb3 15 rfl rfl, rfl, tb1 4 rfl rfl, ⟨by decide +kernel, by decide +kernel⟩, by decide +kernel, by decide +kernel, fun _ => ⟨tb3 13 rfl rfl, tb3 14 rfl rfl⟩, fun h => absurd h (by decide), fun h => absurd h (by decide), Or.inl rfl⟩
set_option maxRecDepth 20000 in
theorem mw_75 : mOK 75 := ⟨tb2 209 rfl rfl, rfl, tb1 4 rfl rfl, ⟨by decide +kernel, by decide +kernel⟩, by decide +kernel, by decide +kernel, fun _ => ⟨tb2 207 rfl rfl, tb2 208 rfl rfl⟩, fun h => absurd h (by decide), fun h => absurd h (by decide), Or.inl rfl⟩
set_option maxRecDepth 20000 in
theorem mw_76 : mOK 76 := ⟨tb2 185 rfl rfl, rfl, tb1 4 rfl rfl, ⟨by decide +kernel, by decide +kernel⟩, by decide +kernel, by decide +kernel, fun _ => ⟨tb2 183 rfl rfl, tb2 184 rfl rfl⟩, fun h => absurd h (by decide), fun h => absurd h (by decide), Or.inl rfl⟩
set_option maxRecDepth 20000 in
theorem mw_77 : mOK 77 := ⟨tb2 201 rfl rfl, rfl, tb1 4 rfl rfl, ⟨by decide +kernel, by decide +kernel⟩, by decide +kernel, by decide +kernel, fun _ => ⟨tb2 199 rfl rfl, tb2 200 rfl rfl⟩, fun h => absurd h (by decide), fun h => absurd h (by decide), Or.inl rfl⟩
set_option maxRecDepth 20000 in
theorem mw_78 : mOK 78 := ⟨tb3 46 rfl rfl, rfl, tb1 4 rfl rfl, ⟨by decide +kernel, by decide +kernel⟩, by decide +kernel, by decide +kernel, fun h => absurd h (by decide), fun _ => tb3 45 rfl rfl, fun h => absurd h (by decide), Or.inr (Or.inl rfl)⟩
set_option maxRecDepth 20000 in
theorem mw_79 : mOK 79 := ⟨tb3 50 rfl rfl, rfl, tb1 4 rfl rfl, ⟨by decide +kernel, by decide +kernel⟩, by decide +kernel, by decide +kernel, fun h => absurd h (by decide), fun _ => tb3 49 rfl rfl, fun h => absurd h (by decide), Or.inr (Or.inl rfl)⟩
set_option maxRecDepth 20000 in
theorem mw_80 : mOK 80 := ⟨tb2 226 rfl rfl, rfl, tb1 4 rfl rfl, ⟨by decide +kernel, by decide +kernel⟩, by decide +kernel, by decide +kernel, fun _ => ⟨tb2 224 rfl rfl, tb2 225 rfl rfl⟩, fun h => absurd h (by decide), fun h => absurd h (by decide), Or.inl rfl⟩
set_option maxRecDepth 20000 in
theorem mw_81 : mOK 81 := ⟨tb4 96 rfl rfl, rfl, tb1 4 rfl rfl, ⟨by decide +kernel, by decide +kernel⟩, by decide +kernel, by decide +kernel, fun _ => ⟨tb4 94 rfl rfl, tb4 95 rfl rfl⟩, fun h => absurd h (by decide), fun h => absurd h (by decide), Or.inl rfl⟩
set_option maxRecDepth 20000 in
theorem mw_82 : mOK 82 := ⟨tb2 231 rfl rfl, rfl, tb1 4 rfl rfl, ⟨by decide +kernel, by decide +kernel⟩, by decide +kernel, by decide +kernel, fun _ => ⟨tb2 229 rfl rfl, tb2 230 rfl rfl⟩, fun h => absurd h (by decide), fun h => absurd h (by decide), Or.inl rfl⟩
set_option maxRecDepth 20000 in
theorem mw_83 : mOK 83 := ⟨tb2 235 rfl rfl, rfl, tb1 4 rfl rfl, ⟨by decide +kernel, by decide +kernel⟩, by decide +kernel, by decide +kernel, fun _ => ⟨tb2 233 rfl rfl, tb2 234 rfl rfl⟩, fun h => absurd h (by decide), fun h => absurd h (by decide), Or.inl rfl⟩
set_option maxRecDepth 20000 in
theorem mw_84 : mOK 84 := ⟨tb4 37 rfl rfl, rfl, tb1 4 rfl rfl, ⟨by decide +kernel, by decide +kernel⟩, by decide +kernel, by decide +kernel, fun _ => ⟨tb4 35 rfl rfl, tb4 36 rfl rfl⟩, fun h => absurd h (by decide), fun h => absurd h (by decide), Or.inl rfl⟩
set_option maxRecDepth 20000 in
theorem mw_85 : mOK 85 := ⟨tb4 101 rfl rfl, rfl, tb1 4 rfl rfl, ⟨by decide +kernel, by decide +kernel⟩, by decide +kernel, by decide +kernel, fun _ => ⟨tb4 99 rfl rfl, tb4 100 rfl rfl⟩, fun h => absurd h (by decide), fun h => absurd h (by decide), Or.inl rfl⟩
set_option maxRecDepth 20000 in
theorem mw_86 : mOK 86 := ⟨tb4 33 rfl rfl, rfl, tb1 4 rfl rfl, ⟨by decide +kernel, by decide +kernel⟩, by decide +kernel, by decide +kernel, fun _ => ⟨tb4 31 rfl rfl, tb4 32 rfl rfl⟩, fun h => absurd h (by decide), fun h => absurd h (by decide), Or.inl rfl⟩
set_option maxRecDepth 20000 in
theorem mw_87 : mOK 87 := ⟨tb4 45 rfl rfl, rfl, tb1 4 rfl rfl, ⟨by decide +kernel, by decide +kernel⟩, by decide +kernel, by decide +kernel, fun _ => ⟨tb4 43 rfl rfl, tb4 44 rfl rfl⟩, fun h => absurd h (by decide), fun h => absurd h (by decide), Or.inl rfl⟩
set_option maxRecDepth 20000 in
theorem mw_88 : mOK 88 := ⟨tb4 49 rfl rfl, rfl, tb1 4 rfl rfl, ⟨by decide +kernel, by decide +kernel⟩, by decide +kernel, by decide +kernel, fun _ => ⟨tb4 48 rfl rfl, tbp (n := 6) (List.mem_append_right _ (List.mem_append_left _ (List.mem_of_getElem? (l := lw_privs_2) (i := 4) rfl))) rfl⟩, fun h => absurd h (by decide), fun h => absurd h (by decide), Or.inl rfl⟩
set_option maxRecDepth 20000 in
theorem mw_89 : mOK 89 := ⟨tb4 58 rfl rfl, rfl, tb1 4 rfl rfl, ⟨by decide +kernel, by decide +kernel⟩, by decide +kernel, by decide +kernel, fun _ => ⟨tb4 56 rfl rfl, tb4 57 rfl rfl⟩, fun h => absurd h (by decide), fun h => absurd h (by decide), Or.inl rfl⟩
set_option maxRecDepth 20000 in
theorem mw_90 : mOK 90 := ⟨tb4 62 rfl rfl, rfl, tb1 4 rfl rfl, ⟨by decide +kernel, by decide +kernel⟩, by decide +kernel, by decide +kernel, fun _ => ⟨tb4 61 rfl rfl, tbp (n := 6) (List.mem_append_right _ (List.mem_append_left _ (List.mem_of_getElem? (l := lw_privs_2) (i := 5) rfl))) rfl⟩, fun h => absurd h (by decide), fun h => absurd h (by decide), Or.inl rfl⟩
set_option maxRecDepth 20000 in
theorem mw_91 : mOK 91 := ⟨tb1 26 rfl rfl, rfl, tb1 1 rfl rfl, ⟨by decide +kernel, by decide +kernel⟩, by decide +kernel, by decide +kernel, fun h => absurd h (by decide), fun h => absurd h (by decide), fun _ => ⟨tb1 25 rfl rfl, rfl⟩, Or.inr (Or.inr rfl)⟩
set_option maxRecDepth 20000 in
theorem mw_92 : mOK 92 := ⟨tb2 60 rfl rfl, rfl, tb1 1 rfl rfl, ⟨by decide +kernel, by decide +kernel⟩, by decide +kernel, by decide +kernel, fun _ => ⟨tb2 58 rfl rfl, tb2 59 rfl rfl⟩, fun h => absurd h (by decide), fun h => absurd h (by decide), Or.inl rfl⟩
set_option maxRecDepth 20000 in
theorem mw_93 : mOK 93 := ⟨tb2 72 rfl rfl, rfl, tb1 1 rfl rfl, ⟨by decide +kernel, by decide +kernel⟩, by decide +kernel, by decide +kernel, fun _ => ⟨tb2 70 rfl rfl, tb2 71 rfl rfl⟩, fun h => absurd h (by decide), fun h => absurd h (by decide), Or.inl rfl⟩
set_option maxRecDepth 20000 in
theorem mw_94 : mOK 94 := ⟨tb2 217 rfl rfl, rfl, tb1 1 rfl rfl, ⟨by decide +kernel, by decide +kernel⟩, by decide +kernel, by decide +kernel, fun _ => ⟨tb2 215 rfl rfl, tb2 216 rfl rfl⟩, fun h => absurd h (by decide), fun h => absurd h (by decide), Or.inl rfl⟩
set_option maxRecDepth 20000 in
theorem mw_95 : mOK 95 := ⟨tb2 239 rfl rfl, rfl, tb1 1 rfl rfl, ⟨by decide +kernel, by decide +kernel⟩, by decide +kernel, by decide +kernel, fun _ => ⟨tb2 237 rfl rfl, tb2 238 rfl rfl⟩, fun h => absurd h (by decide), fun h => absurd h (by decide), Or.inl rfl⟩
set_option maxRecDepth 20000 in
theorem mw_96 : mOK 96 := ⟨tb4 109 rfl rfl, rfl, tb1 1 rfl rfl, ⟨by decide +kernel, by decide +kernel⟩, by decide +kernel, by decide +kernel, fun _ => ⟨tb4 107 rfl rfl, tb4 108 rfl rfl⟩, fun h => absurd h (by decide), fun h => absurd h (by decide), Or.inl rfl⟩
set_option maxRecDepth 20000 in
theorem mw_97 : mOK 97 := ⟨tb3 11 rfl rfl, rfl, tb1 1 rfl rfl, ⟨by decide +kernel, by decide +kernel⟩, by decide +kernel, by decide +kernel, fun _ => ⟨tb3 9 rfl rfl, tb3 10 rfl rfl⟩, fun h => absurd h (by decide), fun h => absurd h (by decide), Or.inl rfl⟩
set_option maxRecDepth 20000 in
theorem mw_98 : mOK 98 := ⟨tb3 19 rfl rfl, rfl, tb1 1 rfl rfl, ⟨by decide +kernel, by decide +kernel⟩, by decide +kernel, by decide +kernel, fun _ => ⟨tb3 17 rfl rfl, tb3 18 rfl rfl⟩, fun h => absurd h (by decide), fun h => absurd h (by decide), Or.inl rfl⟩
set_option maxRecDepth 20000 in
theorem mw_99 : mOK 99 := ⟨tb3 24 rfl rfl, rfl, tb1 1 rfl rfl, ⟨by decide +kernel, by decide +kernel⟩, by decide +kernel, by decide +kernel, fun _ => ⟨tb3 22 rfl rfl, tb3 23 rfl rfl⟩, fun h => absurd h (by decide), fun h => absurd h (by decide), Or.inl rfl⟩
set_option maxRecDepth 20000 in
theorem mw_100 : mOK 100 := ⟨tb3 36 rfl rfl, rfl, tb1 1 rfl rfl, ⟨by decide +kernel, by decide +kernel⟩, by decide +kernel, by decide +kernel, fun _ => ⟨tb3 34 rfl rfl, tb3 35 rfl rfl⟩, fun h => absurd h (by decide), fun h => absurd h (by decide), Or.inl rfl⟩
set_option maxRecDepth 20000 in
theorem mw_101 : mOK 101 := ⟨tb3 71 rfl rfl, rfl, tb1 1 rfl rfl, ⟨by decide +kernel, by decide +kernel⟩, by decide +kernel, by decide +kernel, fun _ => ⟨tb3 69 rfl rfl, tb3 70 rfl rfl⟩, fun h => absurd h (by decide), fun h => absurd h (by decide), Or.inl rfl⟩
set_option maxRecDepth 20000 in
theorem mw_102 : mOK 102 := ⟨tb3 75 rfl rfl, rfl, tb1 1 rfl rfl, ⟨by decide +kernel, by decide +kernel⟩, by decide +kernel, by decide +kernel, fun _ => ⟨tb3 73 rfl rfl, tb3 74 rfl rfl⟩, fun h => absurd h (by decide), fun h => absurd h (by decide), Or.inl rfl⟩
set_option maxRecDepth 20000 in
theorem mw_103 : mOK 103 := ⟨tb3 80 rfl rfl, rfl, tb1 1 rfl rfl, ⟨by decide +kernel, by decide +kernel⟩, by decide +kernel, by decide +kernel, fun _ => ⟨tb3 78 rfl rfl, tb3 79 rfl rfl⟩, fun h => absurd h (by decide), fun h => absurd h (by decide), Or.inl rfl⟩
set_option maxRecDepth 20000 in
theorem mw_104 : mOK 104 := ⟨tb3 98 rfl rfl, rfl, tb1 1 rfl rfl, ⟨by decide +kernel, by decide +kernel⟩, by decide +kernel, by decide +kernel, fun h => absurd h (by decide), fun _ => tb3 97 rfl rfl, fun h => absurd h (by decide), Or.inr (Or.inl rfl)⟩
set_option maxRecDepth 20000 in
theorem mw_105 : mOK 105 := ⟨tb3 102 rfl rfl, rfl, tb1 1 rfl rfl, ⟨by decide +kernel, by decide +kernel⟩, by decide +kernel, by decide +kernel, fun _ => ⟨tb3 100 rfl rfl, tb3 101 rfl rfl⟩, fun h => absurd h (by decide), fun h => absurd h (by decide), Or.inl rfl⟩
set_option maxRecDepth 20000 in
theorem mw_106 : mOK 106 := ⟨tb3 125 rfl rfl, rfl, tb1 1 rfl rfl, ⟨by decide +kernel, by decide +kernel⟩, by decide +kernel, by decide +kernel, fun _ => ⟨tb3 123 rfl rfl, tb3 124 rfl rfl⟩, fun h => absurd h (by decide), fun h => absurd h (by decide), Or.inl rfl⟩
set_option maxRecDepth 20000 in
theorem mw_107 : mOK 107 := ⟨tb3 105 rfl rfl, rfl, tb1 1 rfl rfl, ⟨by decide +kernel, by decide +kernel⟩, by decide +kernel, by decide +kernel, fun h => absurd h (by decide), fun _ => tb3 104 rfl rfl, fun h => absurd h (by decide), Or.inr (Or.inl rfl)⟩
set_option maxRecDepth 20000 in
theorem mw_108 : mOK 108 := ⟨tb3 108 rfl rfl, rfl, tb1 1 rfl rfl, ⟨by decide +kernel, by decide +kernel⟩, by decide +kernel, by decide +kernel, fun h => absurd h (by decide), fun _ => tb3 107 rfl rfl, fun h => absurd h (by decide), Or.inr (Or.inl rfl)⟩
set_option maxRecDepth 20000 in
theorem mw_109 : mOK 109 := ⟨tb3 134 rfl rfl, rfl, tb1 1 rfl rfl, ⟨by decide +kernel, by decide +kernel⟩, by decide +kernel, by decide +kernel, fun _ => ⟨tb3 132 rfl rfl, tb3 133 rfl rfl⟩, fun h => absurd h (by decide), fun h => absurd h (by decide), Or.inl rfl⟩
set_option maxRecDepth 20000 in
theorem mw_110 : mOK 110 := ⟨tb3 138 rfl rfl, rfl, tb1 1 rfl rfl, ⟨by decide +kernel, by decide +kernel⟩, by decide +kernel, by decide +kernel, fun _ => ⟨tb3 136 rfl rfl, tb3 137 rfl rfl⟩, fun h => absurd h (by decide), fun h => absurd h (by decide), Or.inl rfl⟩
set_option maxRecDepth 20000 in
theorem mw_111 : mOK 111 := ⟨tb3 149 rfl rfl, rfl, tb1 1 rfl rfl, ⟨by decide +kernel, by decide +kernel⟩, by decide +kernel, by decide +kernel, fun _ => ⟨tb3 147 rfl rfl, tb3 148 rfl rfl⟩, fun h => absurd h (by decide), fun h => absurd h (by decide), Or.inl rfl⟩
set_option maxRecDepth 20000 in
theorem mw_112 : mOK 112 := ⟨tb3 145 rfl rfl, rfl, tb1 1 rfl rfl, ⟨by decide +kernel, by decide +kernel⟩, by decide +kernel, by decide +kernel, fun h => absurd h (by decide), fun _ => tb3 144 rfl rfl, fun h => absurd h (by decide), Or.inr (Or.inl rfl)⟩
set_option maxRecDepth 20000 in
theorem mw_113 : mOK 113 := ⟨tb3 153 rfl rfl, rfl, tb1 1 rfl rfl, ⟨by decide +kernel, by decide +kernel⟩, by decide +kernel, by decide +kernel, fun _ => ⟨tb3 151 rfl rfl, tb3 152 rfl rfl⟩, fun h => absurd h (by decide), fun h => absurd h (by decide), Or.inl rfl⟩
set_option maxRecDepth 20000 in
theorem mw_114 : mOK 114 := ⟨tb3 158 rfl rfl, rfl, tb1 1 rfl rfl, ⟨by decide +kernel, by decide +kernel⟩, by decide +kernel, by decide +kernel, fun _ => ⟨tb3 156 rfl rfl, tb3 157 rfl rfl⟩, fun h => absurd h (by decide), fun h => absurd h (by decide), Or.inl rfl⟩
set_option maxRecDepth 20000 in
theorem mw_115 : mOK 115 := ⟨tb3 177 rfl rfl, rfl, tb1 1 rfl rfl, ⟨by decide +kernel, by decide +kernel⟩, by decide +kernel, by decide +kernel, fun _ => ⟨tb3 175 rfl rfl, tb3 176 rfl rfl⟩, fun h => absurd h (by decide), fun h => absurd h (by decide), Or.inl rfl⟩
set_option maxRecDepth 20000 in
theorem mw_116 : mOK 116 := ⟨tb3 181 rfl rfl, rfl, tb1 1 rfl rfl, ⟨by decide +kernel, by decide +kernel⟩, by decide +kernel, by decide +kernel, fun _ => ⟨tb3 179 rfl rfl, tb3 180 rfl rfl⟩, fun h => absurd h (by decide), fun h => absurd h (by decide), Or.inl rfl⟩
set_option maxRecDepth 20000 in
theorem mw_117 : mOK 117 := ⟨tb3 186 rfl rfl, rfl, tb1 1 rfl rfl, ⟨by decide +kernel, by decide +kernel⟩, by decide +kernel, by decide +kernel, fun _ => ⟨tb3 184 rfl rfl, tb3 185 rfl rfl⟩, fun h => absurd h (by decide), fun h => absurd h (by decide), Or.inl rfl⟩
set_option maxRecDepth 20000 in
theorem mw_118 : mOK 118 := ⟨tb3 217 rfl rfl, rfl, tb1 1 rfl rfl, ⟨by decide +kernel, by decide +kernel⟩, by decide +kernel, by decide +kernel, fun _ => ⟨tb3 215 rfl rfl, tb3 216 rfl rfl⟩, fun h => absurd h (by decide), fun h => absurd h (by decide), Or.inl rfl⟩
set_option maxRecDepth 20000 in
theorem mw_119 : mOK 119 := ⟨tb3 236 rfl rfl, rfl, tb1 1 rfl rfl, ⟨by decide +kernel, by decide +kernel⟩, by decide +kernel, by decide +kernel, fun _ => ⟨tb3 234 rfl rfl, tb3 235 rfl rfl⟩, fun h => absurd h (by decide), fun h => absurd h (by decide), Or.inl rfl⟩
set_option maxRecDepth 20000 in
theorem mw_120 : mOK 120 := ⟨tb4 11 rfl rfl, rfl, tb1 1 rfl rfl, ⟨by decide +kernel, by decide +kernel⟩, by decide +kernel, by decide +kernel, fun _ => ⟨tb4 9 rfl rfl, tb4 10 rfl rfl⟩, fun h => absurd h (by decide), fun h => absurd h (by decide), Or.inl rfl⟩
set_option maxRecDepth 20000 in
theorem mw_121 : mOK 121 := ⟨tb4 19 rfl rfl, rfl, tb1 1 rfl rfl, ⟨by decide +kernel, by decide +kernel⟩, by decide +kernel, by decide +kernel, fun _ => ⟨tb4 17 rfl rfl, tb4 18 rfl rfl⟩, fun h => absurd h (by decide), fun h => absurd h (by decide), Or.inl rfl⟩
set_option maxRecDepth 20000 in
theorem mw_122 : mOK 122 := ⟨tb4 24 rfl rfl, rfl, tb1 1 rfl rfl, ⟨by decide +kernel, by decide +kernel⟩, by decide +kernel, by decide +kernel, fun _ => ⟨tb4 22 rfl rfl, tb4 23 rfl rfl⟩, fun h => absurd h (by decide), fun h => absurd h (by decide), Or.inl rfl⟩
set_option maxRecDepth 20000 in
theorem mw_123 : mOK 123 := ⟨tb4 29 rfl rfl, rfl, tb1 1 rfl rfl, ⟨by decide +kernel, by decide +kernel⟩, by decide +kernel, by decide +kernel, fun _ => ⟨tb4 27 rfl rfl, tb4 28 rfl rfl⟩, fun h => absurd h (by decide), fun h => absurd h (by decide), Or.inl rfl⟩
set_option maxRecDepth 20000 in
theorem mw_124 : mOK 124 := ⟨tb4 41 rfl rfl, rfl, tb1 1 rfl rfl, ⟨by decide +kernel, by decide +kernel⟩, by decide +kernel, by decide +kernel, fun _ => ⟨tb4 39 rfl rfl, tb4 40 rfl rfl⟩, fun h => absurd h (by decide), fun h => absurd h (by decide), Or.inl rfl⟩
set_option maxRecDepth 20000 in
theorem mw_125 : mOK 125 := ⟨tb4 54 rfl rfl, rfl, tb1 1 rfl rfl, ⟨by decide +kernel, by decide +kernel⟩, by decide +kernel, by decide +kernel, fun _ => ⟨tb4 52 rfl rfl, tb4 53 rfl rfl⟩, fun h => absurd h (by decide), fun h => absurd h (by decide), Or.inl rfl⟩
set_option maxRecDepth 20000 in
theorem mw_126 : mOK 126 := ⟨tb4 68 rfl rfl, rfl, tb1 1 rfl rfl, ⟨by decide +kernel, by decide +kernel⟩, by decide +kernel, by decide +kernel, fun _ => ⟨tb4 66 rfl rfl, tb4 67 rfl rfl⟩, fun h => absurd h (by decide), fun h => absurd h (by decide), Or.inl rfl⟩
set_option maxRecDepth 20000 in
theorem mw_127 : mOK 127 := ⟨tb4 80 rfl rfl, rfl, tb1 1 rfl rfl, ⟨by decide +kernel, by decide +kernel⟩, by decide +kernel, by decide +kernel, fun _ => ⟨tb4 78 rfl rfl, tb4 79 rfl rfl⟩, fun h => absurd h (by decide), fun h => absurd h (by decide), Or.inl rfl⟩
set_option maxRecDepth 20000 in
theorem mw_128 : mOK 128 := ⟨tb4 92 rfl rfl, rfl, tb1 1 rfl rfl, ⟨by decide +kernel, by decide +kernel⟩, by decide +kernel, by decide +kernel, fun _ => ⟨tb4 90 rfl rfl, tb4 91 rfl rfl⟩, fun h => absurd h (by decide), fun h => absurd h (by decide), Or.inl rfl⟩
set_option maxRecDepth 20000 in
theorem mw_129 : mOK 129 := ⟨tb4 182 rfl rfl, rfl, tb1 12 rfl rfl, ⟨by decide +kernel, by decide +kernel⟩, by decide +kernel, by decide +kernel, fun h => absurd h (by decide), fun h => absurd h (by decide), fun _ => ⟨tb4 181 rfl rfl, rfl⟩, Or.inr (Or.inr rfl)⟩
set_option maxRecDepth 20000 in
theorem mw_130 : mOK 130 := ⟨tb5 37 rfl rfl, rfl, tb1 12 rfl rfl, ⟨by decide +kernel, by decide +kernel⟩, by decide +kernel, by decide +kernel, fun _ => ⟨tb5 35 rfl rfl, tb5 36 rfl rfl⟩, fun h => absurd h (by decide), fun h => absurd h (by decide), Or.inl rfl⟩
set_option maxRecDepth 20000 in
theorem mw_131 : mOK 131 := ⟨tb5 52 rfl rfl, rfl, tb1 12 rfl rfl, ⟨by decide +kernel, by decide +kernel⟩, by decide +kernel, by decide +kernel, fun h => absurd h (by decide), fun _ => tb5 51 rfl rfl, fun h => absurd h (by decide), Or.inr (Or.inl rfl)⟩
set_option maxRecDepth 20000 in
theorem mw_132 : mOK 132 := ⟨tb5 45 rfl rfl, rfl, tb1 12 rfl rfl, ⟨by decide +kernel, by decide +kernel⟩, by decide +kernel, by decide +kernel, fun _ => ⟨tb5 44 rfl rfl, tbp (n := 29) (List.mem_append_right _ (List.mem_append_left _ (List.mem_of_getElem? (l := lw_privs_2) (i := 7) rfl))) rfl⟩, fun h => absurd h (by decide), fun h => absurd h (by decide), Or.inl rfl⟩
set_option maxRecDepth 20000 in
theorem mw_133 : mOK 133 := ⟨tb5 41 rfl rfl, rfl, tb1 12 rfl rfl, ⟨by decide +kernel, by decide +kernel⟩, by decide +kernel, by decide +kernel, fun _ => ⟨tb5 39 rfl rfl, tb5 40 rfl rfl⟩, fun h => absurd h (by decide), fun h => absurd h (by decide), Or.inl rfl⟩
set_option maxRecDepth 20000 in
theorem mw_134 : mOK 134 := ⟨tb5 64 rfl rfl, rfl, tb1 12 rfl rfl, ⟨by decide +kernel, by decide +kernel⟩, by decide +kernel, by decide +kernel, fun _ => ⟨tb5 63 rfl rfl, tbp (n := 29) (List.mem_append_right _ (List.mem_append_left _ (List.mem_of_getElem? (l := lw_privs_2) (i := 10) rfl))) rfl⟩, fun h => absurd h (by decide), fun h => absurd h (by decide), Or.inl rfl⟩
set_option maxRecDepth 20000 in
theorem mw_135 : mOK 135 := ⟨tb5 60 rfl rfl, rfl, tb1 12 rfl rfl, ⟨by decide +kernel, by decide +kernel⟩, by decide +kernel, by decide +kernel, fun _ => ⟨tb5 59 rfl rfl, tbp (n := 29) (List.mem_append_right _ (List.mem_append_left _ (List.mem_of_getElem? (l := lw_privs_2) (i := 9) rfl))) rfl⟩, fun h => absurd h (by decide), fun h => absurd h (by decide), Or.inl rfl⟩
set_option maxRecDepth 20000 in
theorem mw_136 : mOK 136 := ⟨tb5 92 rfl rfl, rfl, tb1 12 rfl rfl, ⟨by decide +kernel, by decide +kernel⟩, by decide +kernel, by decide +kernel, fun _ => ⟨tb5 91 rfl rfl, tbp (n := 29) (List.mem_append_right _ (List.mem_append_left _ (List.mem_of_getElem? (l := lw_privs_2) (i := 13) rfl))) rfl⟩, fun h => absurd h (by decide), fun h => absurd h (by decide), Or.inl rfl⟩
set_option maxRecDepth 20000 in
theorem mw_137 : mOK 137 := ⟨tb5 81 rfl rfl, rfl, tb1 12 rfl rfl, ⟨by decide +kernel, by decide +kernel⟩, by decide +kernel, by decide +kernel, fun h => absurd h (by decide), fun _ => tb5 80 rfl rfl, fun h => absurd h (by decide), Or.inr (Or.inl rfl)⟩
set_option maxRecDepth 20000 in
theorem mw_138 : mOK 138 := ⟨tb5 78 rfl rfl, rfl, tb1 12 rfl rfl, ⟨by decide +kernel, by decide +kernel⟩, by decide +kernel, by decide +kernel, fun _ => ⟨tb5 77 rfl rfl, tbp (n := 29) (List.mem_append_right _ (List.mem_append_left _ (List.mem_of_getElem? (l := lw_privs_2) (i := 12) rfl))) rfl⟩, fun h => absurd h (by decide), fun h => absurd h (by decide), Or.inl rfl⟩
set_option maxRecDepth 20000 in
theorem mw_139 : mOK 139 := ⟨tb5 108 rfl rfl, rfl, tb1 12 rfl rfl, ⟨by decide +kernel, by decide +kernel⟩, by decide +kernel, by decide +kernel, fun _ => ⟨tb5 107 rfl rfl, tbp (n := 29) (List.mem_append_right _ (List.mem_append_right _ (List.mem_append_left _ (List.mem_of_getElem? (l := lw_privs_3) (i := 1) rfl)))) rfl⟩, fun h => absurd h (by decide), fun h => absurd h (by decide), Or.inl rfl⟩
set_option maxRecDepth 20000 in
theorem mw_140 : mOK 140 := ⟨tb5 122 rfl rfl, rfl, tb1 12 rfl rfl, ⟨by decide +kernel, by decide +kernel⟩, by decide +kernel, by decide +kernel, fun _ => ⟨tb5 121 rfl rfl, tbp (n := 29) (List.mem_append_right _ (List.mem_append_right _ (List.mem_append_left _ (List.mem_of_getElem? (l := lw_privs_3) (i := 4) rfl)))) rfl⟩, fun h => absurd h (by decide), fun h => absurd h (by decide), Or.inl rfl⟩
set_option maxRecDepth 20000 in
theorem mw_141 : mOK 141 := ⟨tb5 96 rfl rfl, rfl, tb1 12 rfl rfl, ⟨by decide +kernel, by decide +kernel⟩, by decide +kernel, by decide +kernel, fun _ => ⟨tb5 95 rfl rfl, tbp (n := 29) (List.mem_append_right _ (List.mem_append_left _ (List.mem_of_getElem? (l := lw_privs_2) (i := 14) rfl))) rfl⟩, fun h => absurd h (by decide), fun h => absurd h (by decide), Or.inl rfl⟩
set_option maxRecDepth 20000 in
theorem mw_142 : mOK 142 := ⟨tb5 118 rfl rfl, rfl, tb1 12 rfl rfl, ⟨by decide +kernel, by decide +kernel⟩, by decide +kernel, by decide +kernel, fun _ => ⟨tb5 117 rfl rfl, tbp (n := 29) (List.mem_append_right _ (List.mem_append_right _ (List.mem_append_left _ (List.mem_of_getElem? (l := lw_privs_3) (i := 3) rfl)))) rfl⟩, fun h => absurd h (by decide), fun h => absurd h (by decide), Or.inl rfl⟩
set_option maxRecDepth 20000 in
theorem mw_143 : mOK 143 := ⟨tb5 114 rfl rfl, rfl, tb1 12 rfl rfl, ⟨by decide +kernel, by decide +kernel⟩, by decide +kernel, by decide +kernel, fun _ => ⟨tb5 113 rfl rfl, tbp (n := 29) (List.mem_append_right _ (List.mem_append_right _ (List.mem_append_left _ (List.mem_of_getElem? (l := lw_privs_3) (i := 2) rfl)))) rfl⟩, fun h => absurd h (by decide), fun h => absurd h (by decide), Or.inl rfl⟩
set_option maxRecDepth 20000 in
theorem mw_144 : mOK 144 := ⟨tb5 104 rfl rfl, rfl, tb1 12 rfl rfl, ⟨by decide +kernel, by decide +kernel⟩, by decide +kernel, by decide +kernel, fun _ => ⟨tb5 103 rfl rfl, tbp (n := 29) (List.mem_append_right _ (List.mem_append_right _ (List.mem_append_left _ (List.mem_of_getElem? (l := lw_privs_3) (i := 0) rfl)))) rfl⟩, fun h => absurd h (by decide), fun h => absurd h (by decide), Or.inl rfl⟩
set_option maxRecDepth 20000 in
theorem mw_145 : mOK 145 := ⟨tb5 126 rfl rfl, rfl, tb1 12 rfl rfl, ⟨by decide +kernel, by decide +kernel⟩, by decide +kernel, by decide +kernel, fun _ => ⟨tb5 125 rfl rfl, tbp (n := 29) (List.mem_append_right _ (List.mem_append_right _ (List.mem_append_left _ (List.mem_of_getElem? (l := lw_privs_3) (i := 5) rfl)))) rfl⟩, fun h => absurd h (by decide), fun h => absurd h (by decide), Or.inl rfl⟩
set_option maxRecDepth 20000 in
theorem mw_146 : mOK 146 := ⟨tb5 138 rfl rfl, rfl, tb1 12 rfl rfl, ⟨by decide +kernel, by decide +kernel⟩, by decide +kernel, by decide +kernel, fun _ => ⟨tb5 137 rfl rfl, tbp (n := 29) (List.mem_append_right _ (List.mem_append_right _ (List.mem_append_left _ (List.mem_of_getElem? (l := lw_privs_3) (i := 8) rfl)))) rfl⟩, fun h => absurd h (by decide), fun h => absurd h (by decide), Or.inl rfl⟩
set_option maxRecDepth 20000 in
theorem mw_147 : mOK 147 := ⟨tb5 100 rfl rfl, rfl, tb1 12 rfl rfl, ⟨by decide +kernel, by decide +kernel⟩, by decide +kernel, by decide +kernel, fun _ => ⟨tb5 99 rfl rfl, tbp (n := 29) (List.mem_append_right _ (List.mem_append_left _ (List.mem_of_getElem? (l := lw_privs_2) (i := 15) rfl))) rfl⟩, fun h => absurd h (by decide), fun h => absurd h (by decide), Or.inl rfl⟩
set_option maxRecDepth 20000 in
theorem mw_148 : mOK 148 := ⟨tb5 130 rfl rfl, rfl, tb1 12 rfl rfl, ⟨by decide +kernel, by decide +kernel⟩, by decide +kernel, by decide +kernel, fun _ => ⟨tb5 129 rfl rfl, tbp (n := 29) (List.mem_append_right _ (List.mem_append_right _ (List.mem_append_left _ (List.mem_of_getElem? (l := lw_privs_3) (i := 6) rfl)))) rfl⟩, fun h => absurd h (by decide), fun h => absurd h (by decide), Or.inl rfl⟩
set_option maxRecDepth 20000 in
theorem mw_149 : mOK 149 := ⟨tb5 134 rfl rfl, rfl, tb1 12 rfl rfl, ⟨by decide +kernel, by decide +kernel⟩, by decide +kernel, by decide +kernel, fun _ => ⟨tb5 133 rfl rfl, tbp (n := 29) (List.mem_append_right _ (List.mem_append_right _ (List.mem_append_left _ (List.mem_of_getElem? (l := lw_privs_3) (i := 7) rfl)))) rfl⟩, fun h => absurd h (by decide), fun h => absurd h (by decide), Or.inl rfl⟩
set_option maxRecDepth 20000 in
theorem mw_150 : mOK 150 := ⟨tb5 146 rfl rfl, rfl, tb1 12 rfl rfl, ⟨by decide +kernel, by decide +kernel⟩, by decide +kernel, by decide +kernel, fun _ => ⟨tb5 145 rfl rfl, tbp (n := 29) (List.mem_append_right _ (List.mem_append_right _ (List.mem_append_left _ (List.mem_of_getElem? (l := lw_privs_3) (i := 10) rfl)))) rfl⟩, fun h => absurd h (by decide), fun h => absurd h (by decide), Or.inl rfl⟩
set_option maxRecDepth 20000 in
theorem mw_151 : mOK 151 := ⟨tb5 150 rfl rfl, rfl, tb1 12 rfl rfl, ⟨by decide +kernel, by decide +kernel⟩, by decide +kernel, by decide +kernel, fun _ => ⟨tb5 149 rfl rfl, tbp (n := 29) (List.mem_append_right _ (List.mem_append_right _ (List.mem_append_left _ (List.mem_of_getElem? (l := lw_privs_3) (i := 11) rfl)))) rfl⟩, fun h => absurd h (by decide), fun h => absurd h (by decide), Or.inl rfl⟩
set_option maxRecDepth 20000 in
theorem mw_152 : mOK 152 := ⟨tb5 142 rfl rfl, rfl, tb1 12 rfl rfl, ⟨by decide +kernel, by decide +kernel⟩, by decide +kernel, by decide +kernel, fun _ => ⟨tb5 141 rfl rfl, tbp (n := 29) (List.mem_append_right _ (List.mem_append_right _ (List.mem_append_left _ (List.mem_of_getElem? (l := lw_privs_3) (i := 9) rfl)))) rfl⟩, fun h => absurd h (by decide), fun h => absurd h (by decide), Or.inl rfl⟩
set_option maxRecDepth 20000 in
theorem mw_153 : mOK 153 := ⟨tb5 73 rfl rfl, rfl, tb1 12 rfl rfl, ⟨by decide +kernel, by decide +kernel⟩, by decide +kernel, by decide +kernel, fun _ => ⟨tb5 72 rfl rfl, tbp (n := 29) (List.mem_append_right _ (List.mem_append_left _ (List.mem_of_getElem? (l := lw_privs_2) (i := 11) rfl))) rfl⟩, fun h => absurd h (by decide), fun h => absurd h (by decide), Or.inl rfl⟩
set_option maxRecDepth 20000 in
theorem mw_154 : mOK 154 := ⟨tb5 56 rfl rfl, rfl, tb1 12 rfl rfl, ⟨by decide +kernel, by decide +kernel⟩, by decide +kernel, by decide +kernel, fun _ => ⟨tb5 55 rfl rfl, tbp (n := 29) (List.mem_append_right _ (List.mem_append_left _ (List.mem_of_getElem? (l := lw_privs_2) (i := 8) rfl))) rfl⟩, fun h => absurd h (by decide), fun h => absurd h (by decide), Or.inl rfl⟩
set_option maxRecDepth 20000 in
theorem mw_155 : mOK 155 := ⟨tb5 49 rfl rfl, rfl, tb1 12 rfl rfl, ⟨by decide +kernel, by decide +kernel⟩, by decide +kernel, by decide +kernel, fun _ => ⟨tb5 47 rfl rfl, tb5 48 rfl rfl⟩, fun h => absurd h (by decide), fun h => absurd h (by decide), Or.inl rfl⟩
set_option maxRecDepth 20000 in
theorem mw_156 : mOK 156 := ⟨tb5 158 rfl rfl, rfl, tb1 12 rfl rfl, ⟨by decide +kernel, by decide +kernel⟩, by decide +kernel, by decide +kernel, fun _ => ⟨tb5 157 rfl rfl, tbp (n := 29) (List.mem_append_right _ (List.mem_append_right _ (List.mem_append_left _ (List.mem_of_getElem? (l := lw_privs_3) (i := 12) rfl)))) rfl⟩, fun h => absurd h (by decide), fun h => absurd h (by decide), Or.inl rfl⟩
set_option maxRecDepth 20000 in
theorem mw_157 : mOK 157 := ⟨tb5 186 rfl rfl, rfl, tb1 12 rfl rfl, ⟨by decide +kernel, by decide +kernel⟩, by decide +kernel, by decide +kernel, fun _ => ⟨tb5 185 rfl rfl, tbp (n := 29) (List.mem_append_right _ (List.mem_append_right _ (List.mem_append_right _ (List.mem_append_left _ (List.mem_of_getElem? (l := lw_privs_4) (i := 1) rfl))))) rfl⟩, fun h => absurd h (by decide), fun h => absurd h (by decide), Or.inl rfl⟩
set_option maxRecDepth 20000 in
theorem mw_158 : mOK 158 := ⟨tb5 178 rfl rfl, rfl, tb1 12 rfl rfl, ⟨by decide +kernel, by decide +kernel⟩, by decide +kernel, by decide +kernel, fun _ => ⟨tb5 177 rfl rfl, tbp (n := 29) (List.mem_append_right _ (List.mem_append_right _ (List.mem_append_right _ (List.mem_append_left _ (List.mem_of_getElem? (l := lw_privs_4) (i := 0) rfl))))) rfl⟩, fun h => absurd h (by decide), fun h => absurd h (by decide), Or.inl rfl⟩
set_option maxRecDepth 20000 in
theorem mw_159 : mOK 159 := ⟨tb5 207 rfl rfl, rfl, tb1 12 rfl rfl, ⟨by decide +kernel, by decide +kernel⟩, by decide +kernel, by decide +kernel, fun _ => ⟨tb5 206 rfl rfl, tbp (n := 29) (List.mem_append_right _ (List.mem_append_right _ (List.mem_append_right _ (List.mem_append_left _ (List.mem_of_getElem? (l := lw_privs_4) (i := 3) rfl))))) rfl⟩, fun h => absurd h (by decide), fun h => absurd h (by decide), Or.inl rfl⟩
set_option maxRecDepth 20000 in
theorem mw_160 : mOK 160 := ⟨tb5 170 rfl rfl, rfl, tb1 12 rfl rfl, ⟨by decide +kernel, by decide +kernel⟩, by decide +kernel, by decide +kernel, fun _ => ⟨tb5 169 rfl rfl, tbp (n := 29) (List.mem_append_right _ (List.mem_append_right _ (List.mem_append_left _ (List.mem_of_getElem? (l := lw_privs_3) (i := 15) rfl)))) rfl⟩, fun h => absurd h (by decide), fun h => absurd h (by decide), Or.inl rfl⟩
set_option maxRecDepth 20000 in
theorem mw_161 : mOK 161 := ⟨tb5 162 rfl rfl, rfl, tb1 12 rfl rfl, ⟨by decide +kernel, by decide +kernel⟩, by decide +kernel, by decide +kernel, fun _ => ⟨tb5 161 rfl rfl, tbp (n := 29) (List.mem_append_right _ (List.mem_append_right _ (List.mem_append_left _ (List.mem_of_getElem? (l := lw_privs_3) (i := 13) rfl)))) rfl⟩, fun h => absurd h (by decide), fun h => absurd h (by decide), Or.inl rfl⟩
set_option maxRecDepth 20000 in
theorem mw_162 : mOK 162 := ⟨tb5 166 rfl rfl, rfl, tb1 12 rfl rfl, ⟨by decide +kernel, by decide +kernel⟩, by decide +kernel, by decide +kernel, fun _ => ⟨tb5 165 rfl rfl, tbp (n := 29) (List.mem_append_right _ (List.mem_append_right _ (List.mem_append_left _ (List.mem_of_getElem? (l := lw_privs_3) (i := 14) rfl)))) rfl⟩, fun h => absurd h (by decide), fun h => absurd h (by decide), Or.inl rfl⟩
set_option maxRecDepth 20000 in
theorem mw_163 : mOK 163 := ⟨tb5 154 rfl rfl, rfl, tb1 12 rfl rfl, ⟨by decide +kernel, by decide +kernel⟩, by decide +kernel, by decide +kernel, fun _ => ⟨tb5 152 rfl rfl, tb5 153 rfl rfl⟩, fun h => absurd h (by decide), fun h => absurd h (by decide), Or.inl rfl⟩
set_option maxRecDepth 20000 in
theorem mw_164 : mOK 164 := ⟨tb5 174 rfl rfl, rfl, tb1 12 rfl rfl, ⟨by decide +kernel, by decide +kernel⟩, by decide +kernel, by decide +kernel, fun _ => ⟨tb5 172 rfl rfl, tb5 173 rfl rfl⟩, fun h => absurd h (by decide), fun h => absurd h (by decide), Or.inl rfl⟩
set_option maxRecDepth 20000 in
theorem mw_165 : mOK 165 := ⟨tb5 191 rfl rfl, rfl, tb1 12 rfl rfl, ⟨by decide +kernel, by decide +kernel⟩, by decide +kernel, by decide +kernel, fun _ => ⟨tb5 190 rfl rfl, tbp (n := 29) (List.mem_append_right _ (List.mem_append_right _ (List.mem_append_right _ (List.mem_append_left _ (List.mem_of_getElem? (l := lw_privs_4) (i := 2) rfl))))) rfl⟩, fun h => absurd h (by decide), fun h => absurd h (by decide), Or.inl rfl⟩
set_option maxRecDepth 20000 in
theorem mw_166 : mOK 166 := ⟨tb5 223 rfl rfl, rfl, tb1 12 rfl rfl, ⟨by decide +kernel, by decide +kernel⟩, by decide +kernel, by decide +kernel, fun _ => ⟨tb5 222 rfl rfl, tbp (n := 29) (List.mem_append_right _ (List.mem_append_right _ (List.mem_append_right _ (List.mem_append_left _ (List.mem_of_getElem? (l := lw_privs_4) (i := 6) rfl))))) rfl⟩, fun h => absurd h (by decide), fun h => absurd h (by decide), Or.inl rfl⟩
set_option maxRecDepth 20000 in
theorem mw_167 : mOK 167 := ⟨tb5 182 rfl rfl, rfl, tb1 12 rfl rfl, ⟨by decide +kernel, by decide +kernel⟩, by decide +kernel, by decide +kernel, fun _ => ⟨tb5 180 rfl rfl, tb5 181 rfl rfl⟩, fun h => absurd h (by decide), fun h => absurd h (by decide), Or.inl rfl⟩
set_option maxRecDepth 20000 in
theorem mw_168 : mOK 168 := ⟨tb5 195 rfl rfl, rfl, tb1 12 rfl rfl, ⟨by decide +kernel, by decide +kernel⟩, by decide +kernel, by decide +kernel, fun _ => ⟨tb5 193 rfl rfl, tb5 194 rfl rfl⟩, fun h => absurd h (by decide), fun h => absurd h (by decide), Or.inl rfl⟩
set_option maxRecDepth 20000 in
theorem mw_169 : mOK 169 := ⟨tb5 199 rfl rfl, rfl, tb1 12 rfl rfl, ⟨by decide +kernel, by decide +kernel⟩, by decide +kernel, by decide +kernel, fun _ => ⟨tb5 197 rfl rfl, tb5 198 rfl rfl⟩, fun h => absurd h (by decide), fun h => absurd h (by decide), Or.inl rfl⟩
set_option maxRecDepth 20000 in
theorem mw_170 : mOK 170 := ⟨tb5 203 rfl rfl, rfl, tb1 12 rfl rfl, ⟨by decide +kernel, by decide +kernel⟩, by decide +kernel, by decide +kernel, fun _ => ⟨tb5 201 rfl rfl, tb5 202 rfl rfl⟩, fun h => absurd h (by decide), fun h => absurd h (by decide), Or.inl rfl⟩
set_option maxRecDepth 20000 in
theorem mw_171 : mOK 171 := ⟨tb5 227 rfl rfl, rfl, tb1 12 rfl rfl, ⟨by decide +kernel, by decide +kernel⟩, by decide +kernel, by decide +kernel, fun _ => ⟨tb5 226 rfl rfl, tbp (n := 29) (List.mem_append_right _ (List.mem_append_right _ (List.mem_append_right _ (List.mem_append_left _ (List.mem_of_getElem? (l := lw_privs_4) (i := 7) rfl))))) rfl⟩, fun h => absurd h (by decide), fun h => absurd h (by decide), Or.inl rfl⟩
set_option maxRecDepth 20000 in
theorem mw_172 : mOK 172 := ⟨tb5 219 rfl rfl, rfl, tb1 12 rfl rfl, ⟨by decide +kernel, by decide +kernel⟩, by decide +kernel, by decide +kernel, fun _ => ⟨tb5 218 rfl rfl, tbp (n := 29) (List.mem_append_right _ (List.mem_append_right _ (List.mem_append_right _ (List.mem_append_left _ (List.mem_of_getElem? (l := lw_privs_4) (i := 5) rfl))))) rfl⟩, fun h => absurd h (by decide), fun h => absurd h (by decide), Or.inl rfl⟩
set_option maxRecDepth 20000 in
theorem mw_173 : mOK 173 := ⟨tb5 215 rfl rfl, rfl, tb1 12 rfl rfl, ⟨by decide +kernel, by decide +kernel⟩, by decide +kernel, by decide +kernel, fun _ => ⟨tb5 214 rfl rfl, tbp (n := 29) (List.mem_append_right _ (List.mem_append_right _ (List.mem_append_right _ (List.mem_append_left _ (List.mem_of_getElem? (l := lw_privs_4) (i := 4) rfl))))) rfl⟩, fun h => absurd h (by decide), fun h => absurd h (by decide), Or.inl rfl⟩
set_option maxRecDepth 20000 in
theorem mw_174 : mOK 174 := ⟨tb5 211 rfl rfl, rfl, tb1 12 rfl rfl, ⟨by decide +kernel, by decide +kernel⟩, by decide +kernel, by decide +kernel, fun _ => ⟨tb5 209 rfl rfl, tb5 210 rfl rfl⟩, fun h => absurd h (by decide), fun h => absurd h (by decide), Or.inl rfl⟩
set_option maxRecDepth 20000 in
theorem mw_175 : mOK 175 := ⟨tb5 231 rfl rfl, rfl, tb1 12 rfl rfl, ⟨by decide +kernel, by decide +kernel⟩, by decide +kernel, by decide +kernel, fun _ => ⟨tb5 229 rfl rfl, tb5 230 rfl rfl⟩, fun h => absurd h (by decide), fun h => absurd h (by decide), Or.inl rfl⟩
set_option maxRecDepth 20000 in
theorem mw_176 : mOK 176 := ⟨tb5 235 rfl rfl, rfl, tb1 12 rfl rfl, ⟨by decide +kernel, by decide +kernel⟩, by decide +kernel, by decide +kernel, fun _ => ⟨tb5 233 rfl rfl, tb5 234 rfl rfl⟩, fun h => absurd h (by decide), fun h => absurd h (by decide), Or.inl rfl⟩
set_option maxRecDepth 20000 in
theorem mw_177 : mOK 177 := ⟨tb6 3 rfl rfl, rfl, tb1 12 rfl rfl, ⟨by decide +kernel, by decide +kernel⟩, by decide +kernel, by decide +kernel, fun _ => ⟨tb6 2 rfl rfl, tbp (n := 29) (List.mem_append_right _ (List.mem_append_right _ (List.mem_append_right _ (List.mem_append_left _ (List.mem_of_getElem? (l := lw_privs_4) (i := 8) rfl))))) rfl⟩, fun h => absurd h (by decide), fun h => absurd h (by decide), Or.inl rfl⟩
set_option maxRecDepth 20000 in
theorem mw_178 : mOK 178 := ⟨tb5 239 rfl rfl, rfl, tb1 12 rfl rfl, ⟨by decide +kernel, by decide +kernel⟩, by decide +kernel, by decide +kernel, fun _ => ⟨tb5 237 rfl rfl, tb5 238 rfl rfl⟩, fun h => absurd h (by decide), fun h => absurd h (by decide), Or.inl rfl⟩
set_option maxRecDepth 20000 in
theorem mw_179 : mOK 179 := ⟨tb6 21 rfl rfl, rfl, tb1 12 rfl rfl, ⟨by decide +kernel, by decide +kernel⟩, by decide +kernel, by decide +kernel, fun _ => ⟨tb6 20 rfl rfl, tbp (n := 29) (List.mem_append_right _ (List.mem_append_right _ (List.mem_append_right _ (List.mem_append_left _ (List.mem_of_getElem? (l := lw_privs_4) (i := 11) rfl))))) rfl⟩, fun h => absurd h (by decide), fun h => absurd h (by decide), Or.inl rfl⟩
set_option maxRecDepth 20000 in
theorem mw_180 : mOK 180 := ⟨tb6 17 rfl rfl, rfl, tb1 12 rfl rfl, ⟨by decide +kernel, by decide +kernel⟩, by decide +kernel, by decide +kernel, fun _ => ⟨tb6 16 rfl rfl, tbp (n := 29) (List.mem_append_right _ (List.mem_append_right _ (List.mem_append_right _ (List.mem_append_left _ (List.mem_of_getElem? (l := lw_privs_4) (i := 10) rfl))))) rfl⟩, fun h => absurd h (by decide), fun h => absurd h (by decide), Or.inl rfl⟩
set_option maxRecDepth 20000 in
theorem mw_181 : mOK 181 := ⟨tb6 37 rfl rfl, rfl, tb1 12 rfl rfl, ⟨by decide +kernel, by decide +kernel⟩, by decide +kernel, by decide +kernel, fun _ => ⟨tb6 36 rfl rfl, tbp (n := 29) (List.mem_append_right _ (List.mem_append_right _ (List.mem_append_right _ (List.mem_append_left _ (List.mem_of_getElem? (l := lw_privs_4) (i := 12) rfl))))) rfl⟩, fun h => absurd h (by decide), fun h => absurd h (by decide), Or.inl rfl⟩
set_option maxRecDepth 20000 in
theorem mw_182 : mOK 182 := ⟨tb6 45 rfl rfl, rfl, tb1 12 rfl rfl, ⟨by decide +kernel, by decide +kernel⟩, by decide +kernel, by decide +kernel, fun _ => ⟨tb6 44 rfl rfl, tbp (n := 29) (List.mem_append_right _ (List.mem_append_right _ (List.mem_append_right _ (List.mem_append_left _ (List.mem_of_getElem? (l := lw_privs_4) (i := 13) rfl))))) rfl⟩, fun h => absurd h (by decide), fun h => absurd h (by decide), Or.inl rfl⟩
set_option maxRecDepth 20000 in
theorem mw_183 : mOK 183 := ⟨tb6 11 rfl rfl, rfl, tb1 12 rfl rfl, ⟨by decide +kernel, by decide +kernel⟩, by decide +kernel, by decide +kernel, fun _ => ⟨tb6 10 rfl rfl, tbp (n := 29) (List.mem_append_right _ (List.mem_append_right _ (List.mem_append_right _ (List.mem_append_left _ (List.mem_of_getElem? (l := lw_privs_4) (i := 9) rfl))))) rfl⟩, fun h => absurd h (by decide), fun h => absurd h (by decide), Or.inl rfl⟩
set_option maxRecDepth 20000 in
theorem mw_184 : mOK 184 := ⟨tb6 7 rfl rfl, rfl, tb1 12 rfl rfl, ⟨by decide +kernel, by decide +kernel⟩, by decide +kernel, by decide +kernel, fun _ => ⟨tb6 5 rfl rfl, tb6 6 rfl rfl⟩, fun h => absurd h (by decide), fun h => absurd h (by decide), Or.inl rfl⟩
set_option maxRecDepth 20000 in
theorem mw_185 : mOK 185 := ⟨tb6 25 rfl rfl, rfl, tb1 12 rfl rfl, ⟨by decide +kernel, by decide +kernel⟩, by decide +kernel, by decide +kernel, fun _ => ⟨tb6 23 rfl rfl, tb6 24 rfl rfl⟩, fun h => absurd h (by decide), fun h => absurd h (by decide), Or.inl rfl⟩
set_option maxRecDepth 20000 in
theorem mw_186 : mOK 186 := ⟨tb6 29 rfl rfl, rfl, tb1 12 rfl rfl, ⟨by decide +kernel, by decide +kernel⟩, by decide +kernel, by decide +kernel, fun _ => ⟨tb6 27 rfl rfl, tb6 28 rfl rfl⟩, fun h => absurd h (by decide), fun h => absurd h (by decide), Or.inl rfl⟩
set_option maxRecDepth 20000 in
theorem mw_187 : mOK 187 := ⟨tb6 33 rfl rfl, rfl, tb1 12 rfl rfl, ⟨by decide +kernel, by decide +kernel⟩, by decide +kernel, by decide +kernel, fun _ => ⟨tb6 31 rfl rfl, tb6 32 rfl rfl⟩, fun h => absurd h (by decide), fun h => absurd h (by decide), Or.inl rfl⟩
set_option maxRecDepth 20000 in
theorem mw_188 : mOK 188 := ⟨tb6 41 rfl rfl, rfl, tb1 12 rfl rfl, ⟨by decide +kernel, by decide +kernel⟩, by decide +kernel, by decide +kernel, fun _ => ⟨tb6 39 rfl rfl, tb6 40 rfl rfl⟩, fun h => absurd h (by decide), fun h => absurd h (by decide), Or.inl rfl⟩
set_option maxRecDepth 20000 in
theorem mw_189 : mOK 189 := ⟨tb6 49 rfl rfl, rfl, tb1 12 rfl rfl, ⟨by decide +kernel, by decide +kernel⟩, by decide +kernel, by decide +kernel, fun _ => ⟨tb6 47 rfl rfl, tb6 48 rfl rfl⟩, fun h => absurd h (by decide), fun h => absurd h (by decide), Or.inl rfl⟩
set_option maxRecDepth 20000 in
theorem mw_190 : mOK 190 := ⟨tb6 58 rfl rfl, rfl, tb1 12 rfl rfl, ⟨by decide +kernel, by decide +kernel⟩, by decide +kernel, by decide +kernel, fun _ => ⟨tb6 57 rfl rfl, tbp (n := 29) (List.mem_append_right _ (List.mem_append_right _ (List.mem_append_right _ (List.mem_append_left _ (List.mem_of_getElem? (l := lw_privs_4) (i := 14) rfl))))) rfl⟩, fun h => absurd h (by decide), fun h => absurd h (by decide), Or.inl rfl⟩
set_option maxRecDepth 20000 in
theorem mw_191 : mOK 191 := ⟨tb6 66 rfl rfl, rfl, tb1 12 rfl rfl, ⟨by decide +kernel, by decide +kernel⟩, by decide +kernel, by decide +kernel, fun _ => ⟨tb6 65 rfl rfl, tbp (n := 29) (List.mem_append_right _ (List.mem_append_right _ (List.mem_append_right _ (List.mem_append_left _ (List.mem_of_getElem? (l := lw_privs_4) (i := 15) rfl))))) rfl⟩, fun h => absurd h (by decide), fun h => absurd h (by decide), Or.inl rfl⟩
set_option maxRecDepth 20000 in
theorem mw_192 : mOK 192 := ⟨tb6 74 rfl rfl, rfl, tb1 12 rfl rfl, ⟨by decide +kernel, by decide +kernel⟩, by decide +kernel, by decide +kernel, fun _ => ⟨tb6 73 rfl rfl, tbp (n := 29) (List.mem_append_right _ (List.mem_append_right _ (List.mem_append_right _ (List.mem_append_right _ (List.mem_of_getElem? (l := lw_privs_5) (i := 0) rfl))))) rfl⟩, fun h => absurd h (by decide), fun h => absurd h (by decide), Or.inl rfl⟩
set_option maxRecDepth 20000 in
theorem mw_193 : mOK 193 := ⟨tb6 81 rfl rfl, rfl, tb1 12 rfl rfl, ⟨by decide +kernel, by decide +kernel⟩, by decide +kernel, by decide +kernel, fun h => absurd h (by decide), fun _ => tb6 80 rfl rfl, fun h => absurd h (by decide), Or.inr (Or.inl rfl)⟩
set_option maxRecDepth 20000 in
theorem mw_194 : mOK 194 := ⟨tb6 54 rfl rfl, rfl, tb1 12 rfl rfl, ⟨by decide +kernel, by decide +kernel⟩, by decide +kernel, by decide +kernel, fun _ => ⟨tb6 52 rfl rfl, tb6 53 rfl rfl⟩, fun h => absurd h (by decide), fun h => absurd h (by decide), Or.inl rfl⟩
set_option maxRecDepth 20000 in
theorem mw_195 : mOK 195 := ⟨tb6 62 rfl rfl, rfl, tb1 12 rfl rfl, ⟨by decide +kernel, by decide +kernel⟩, by decide +kernel, by decide +kernel, fun _ => ⟨tb6 60 rfl rfl, tb6 61 rfl rfl⟩, fun h => absurd h (by decide), fun h => absurd h (by decide), Or.inl rfl⟩
set_option maxRecDepth 20000 in
theorem mw_196 : mOK 196 := ⟨tb6 70 rfl rfl, rfl, tb1 12 rfl rfl, ⟨by decide +kernel, by decide +kernel⟩, by decide +kernel, by decide +kernel, fun _ => ⟨tb6 68 rfl rfl, tb6 69 rfl rfl⟩, fun h => absurd h (by decide), fun h => absurd h (by decide), Or.inl rfl⟩
set_option maxRecDepth 20000 in
theorem mw_197 : mOK 197 := ⟨tb6 78 rfl rfl, rfl, tb1 12 rfl rfl, ⟨by decide +kernel, by decide +kernel⟩, by decide +kernel, by decide +kernel, fun _ => ⟨tb6 76 rfl rfl, tb6 77 rfl rfl⟩, fun h => absurd h (by decide), fun h => absurd h (by decide), Or.inl rfl⟩
set_option maxRecDepth 20000 in
theorem mw_198 : mOK 198 := ⟨tb6 89 rfl rfl, rfl, tb1 12 rfl rfl, ⟨by decide +kernel, by decide +kernel⟩, by decide +kernel, by decide +kernel, fun _ => ⟨tb6 88 rfl rfl, tbp (n := 29) (List.mem_append_right _ (List.mem_append_right _ (List.mem_append_right _ (List.mem_append_right _ (List.mem_of_getElem? (l := lw_privs_5) (i := 1) rfl))))) rfl⟩, fun h => absurd h (by decide), fun h => absurd h (by decide), Or.inl rfl⟩
set_option maxRecDepth 20000 in
theorem mw_199 : mOK 199 := ⟨tb6 85 rfl rfl, rfl, tb1 12 rfl rfl, ⟨by decide +kernel, by decide +kernel⟩, by decide +kernel, by decide +kernel, fun _ => ⟨tb6 83 rfl rfl, tb6 84 rfl rfl⟩, fun h => absurd h (by decide), fun h => absurd h (by decide), Or.inl rfl⟩
set_option maxRecDepth 20000 in
theorem mw_200 : mOK 200 := ⟨tb6 101 rfl rfl, rfl, tb1 12 rfl rfl, ⟨by decide +kernel, by decide +kernel⟩, by decide +kernel, by decide +kernel, fun _ => ⟨tb6 100 rfl rfl, tbp (n := 29) (List.mem_append_right _ (List.mem_append_right _ (List.mem_append_right _ (List.mem_append_right _ (List.mem_of_getElem? (l := lw_privs_5) (i := 3) rfl))))) rfl⟩, fun h => absurd h (by decide), fun h => absurd h (by decide), Or.inl rfl⟩
set_option maxRecDepth 20000 in
theorem mw_201 : mOK 201 := ⟨tb6 97 rfl rfl, rfl, tb1 12 rfl rfl, ⟨by decide +kernel, by decide +kernel⟩, by decide +kernel, by decide +kernel, fun _ => ⟨tb6 96 rfl rfl, tbp (n := 29) (List.mem_append_right _ (List.mem_append_right _ (List.mem_append_right _ (List.mem_append_right _ (List.mem_of_getElem? (l := lw_privs_5) (i := 2) rfl))))) rfl⟩, fun h => absurd h (by decide), fun h => absurd h (by decide), Or.inl rfl⟩
set_option maxRecDepth 20000 in
theorem mw_202 : mOK 202 := ⟨tb6 93 rfl rfl, rfl, tb1 12 rfl rfl, ⟨by decide +kernel, by decide +kernel⟩, by decide +kernel, by decide +kernel, fun _ => ⟨tb6 91 rfl rfl, tb6 92 rfl rfl⟩, fun h => absurd h (by decide), fun h => absurd h (by decide), Or.inl rfl⟩
set_option maxRecDepth 20000 in
theorem mw_203 : mOK 203 := ⟨tb6 105 rfl rfl, rfl, tb1 12 rfl rfl, ⟨by decide +kernel, by decide +kernel⟩, by decide +kernel, by decide +kernel, fun _ => ⟨tb6 103 rfl rfl, tb6 104 rfl rfl⟩, fun h => absurd h (by decide), fun h => absurd h (by decide), Or.inl rfl⟩
set_option maxRecDepth 20000 in
theorem mw_204 : mOK 204 := ⟨tb6 109 rfl rfl, rfl, tb1 12 rfl rfl, ⟨by decide +kernel, by decide +kernel⟩, by decide +kernel, by decide +kernel, fun _ => ⟨tb6 107 rfl rfl, tb6 108 rfl rfl⟩, fun h => absurd h (by decide), fun h => absurd h (by decide), Or.inl rfl⟩
set_option maxRecDepth 20000 in
theorem mw_205 : mOK 205 := ⟨tb6 113 rfl rfl, rfl, tb1 12 rfl rfl, ⟨by decide +kernel, by decide +kernel⟩, by decide +kernel, by decide +kernel, fun _ => ⟨tb6 111 rfl rfl, tb6 112 rfl rfl⟩, fun h => absurd h (by decide), fun h => absurd h (by decide), Or.inl rfl⟩
set_option maxRecDepth 20000 in
theorem mw_206 : mOK 206 := ⟨tb6 121 rfl rfl, rfl, tb1 12 rfl rfl, ⟨by decide +kernel, by decide +kernel⟩, by decide +kernel, by decide +kernel, fun _ => ⟨tb6 120 rfl rfl, tbp (n := 29) (List.mem_append_right _ (List.mem_append_right _ (List.mem_append_right _ (List.mem_append_right _ (List.mem_of_getElem? (l := lw_privs_5) (i := 4) rfl))))) rfl⟩, fun h => absurd h (by decide), fun h => absurd h (by decide), Or.inl rfl⟩
set_option maxRecDepth 20000 in
theorem mw_207 : mOK 207 := ⟨tb6 117 rfl rfl, rfl, tb1 12 rfl rfl, ⟨by decide +kernel, by decide +kernel⟩, by decide +kernel, by decide +kernel, fun _ => ⟨tb6 115 rfl rfl, tb6 116 rfl rfl⟩, fun h => absurd h (by decide), fun h => absurd h (by decide), Or.inl rfl⟩
set_option maxRecDepth 20000 in
theorem mw_208 : mOK 208 := ⟨tb6 125 rfl rfl, rfl, tb1 12 rfl rfl, ⟨by decide +kernel, by decide +kernel⟩, by decide +kernel, by decide +kernel, fun _ => ⟨tb6 123 rfl rfl, tb6 124 rfl rfl⟩, fun h => absurd h (by decide), fun h => absurd h (by decide), Or.inl rfl⟩
set_option maxRecDepth 20000 in
theorem mw_209 : mOK 209 := ⟨tb6 133 rfl rfl, rfl, tb1 12 rfl rfl, ⟨by decide +kernel, by decide +kernel⟩, by decide +kernel, by decide +kernel, fun _ => ⟨tb6 132 rfl rfl, tbp (n := 29) (List.mem_append_right _ (List.mem_append_right _ (List.mem_append_right _ (List.mem_append_right _ (List.mem_of_getElem? (l := lw_privs_5) (i := 5) rfl))))) rfl⟩, fun h => absurd h (by decide), fun h => absurd h (by decide), Or.inl rfl⟩
set_option maxRecDepth 20000 in
theorem mw_210 : mOK 210 := ⟨tb6 129 rfl rfl, rfl, tb1 12 rfl rfl, ⟨by decide +kernel, by decide +kernel⟩, by decide +kernel, by decide +kernel, fun _ => ⟨tb6 127 rfl rfl, tb6 128 rfl rfl⟩, fun h => absurd h (by decide), fun h => absurd h (by decide), Or.inl rfl⟩
set_option maxRecDepth 20000 in
theorem mw_211 : mOK 211 := ⟨tb6 137 rfl rfl, rfl, tb1 12 rfl rfl, ⟨by decide +kernel, by decide +kernel⟩, by decide +kernel, by decide +kernel, fun _ => ⟨tb6 135 rfl rfl, tb6 136 rfl rfl⟩, fun h => absurd h (by decide), fun h => absurd h (by decide), Or.inl rfl⟩
set_option maxRecDepth 20000 in
theorem mw_212 : mOK 212 := ⟨tb6 141 rfl rfl, rfl, tb1 12 rfl rfl, ⟨by decide +kernel, by decide +kernel⟩, by decide +kernel, by decide +kernel, fun _ => ⟨tb6 139 rfl rfl, tb6 140 rfl rfl⟩, fun h => absurd h (by decide), fun h => absurd h (by decide), Or.inl rfl⟩
set_option maxRecDepth 20000 in
theorem mw_213 : mOK 213 := ⟨tb6 149 rfl rfl, rfl, tb1 12 rfl rfl, ⟨by decide +kernel, by decide +kernel⟩, by decide +kernel, by decide +kernel, fun _ => ⟨tb6 148 rfl rfl, tbp (n := 29) (List.mem_append_right _ (List.mem_append_right _ (List.mem_append_right _ (List.mem_append_right _ (List.mem_of_getElem? (l := lw_privs_5) (i := 6) rfl))))) rfl⟩, fun h => absurd h (by decide), fun h => absurd h (by decide), Or.inl rfl⟩
set_option maxRecDepth 20000 in
theorem mw_214 : mOK 214 := ⟨tb6 153 rfl rfl, rfl, tb1 12 rfl rfl, ⟨by decide +kernel, by decide +kernel⟩, by decide +kernel, by decide +kernel, fun _ => ⟨tb6 152 rfl rfl, tbp (n := 29) (List.mem_append_right _ (List.mem_append_right _ (List.mem_append_right _ (List.mem_append_right _ (List.mem_of_getElem? (l := lw_privs_5) (i := 7) rfl))))) rfl⟩, fun h => absurd h (by decide), fun h => absurd h (by decide), Or.inl rfl⟩
set_option maxRecDepth 20000 in
theorem mw_215 : mOK 215 := ⟨tb6 145 rfl rfl, rfl, tb1 12 rfl rfl, ⟨by decide +kernel, by decide +kernel⟩, by decide +kernel, by decide +kernel, fun _ => ⟨tb6 143 rfl rfl, tb6 144 rfl rfl⟩, fun h => absurd h (by decide), fun h => absurd h (by decide), Or.inl rfl⟩
set_option maxRecDepth 20000 in
theorem mw_218 : mOK 218 := ⟨tb3 210 rfl rfl, rfl, tb1 21 rfl rfl, ⟨by decide +kernel, by decide +kernel⟩, by decide +kernel, by decide +kernel, fun h => absurd h (by decide), fun _ => tb3 209 rfl rfl, fun h => absurd h (by decide), Or.inr (Or.inl rfl)⟩
set_option maxRecDepth 20000 in
theorem mw_219 : mOK 219 := ⟨tb3 92 rfl rfl, rfl, tb1 19 rfl rfl, ⟨by decide +kernel, by decide +kernel⟩, by decide +kernel, by decide +kernel, fun h => absurd h (by decide), fun _ => tb3 91 rfl rfl, fun h => absurd h (by decide), Or.inr (Or.inl rfl)⟩
set_option maxRecDepth 20000 in
theorem mw_220 : mOK 220 := ⟨tb2 83 rfl rfl, rfl, tb1 13 rfl rfl, ⟨by decide +kernel, by decide +kernel⟩, by decide +kernel, by decide +kernel, fun h => absurd h (by decide), fun _ => tb2 82 rfl rfl, fun h => absurd h (by decide), Or.inr (Or.inl rfl)⟩
/-- methods 0 to 215 and 218 to 220 -/
theorem mw_all : ∀ j, j < 216 ∨ (217 < j ∧ j < 221) → mOK j := by
  intro j h
  match j, h with
  | 0, _ => exact mw_0
  | 1, _ => exact mw_1
  | 2, _ => exact mw_2
  | 3, _ => exact mw_3
  | 4, _ => exact mw_4
  | 5, _ => exact mw_5
  | 6, _ => exact mw_6
  | 7, _ => exact mw_7
  | 8, _ => exact mw_8
  | 9, _ => exact mw_9
  | 10, _ => exact mw_10
  | 11, _ => exact mw_11
  | 12, _ => exact mw_12
  | 13, _ => exact mw_13
  | 14, _ => exact mw_14
  | 15, _ => exact mw_15
  | 16, _ => exact mw_16
  | 17, _ => exact mw_17
  | 18, _ => exact mw_18
  | 19, _ => exact mw_19
  | 20, _ => exact mw_20
  | 21, _ => exact mw_21
  | 22, _ => exact mw_22
  | 23, _ => exact mw_23
  | 24, _ => exact mw_24
  | 25, _ => exact mw_25
  | 26, _ => exact mw_26
  | 27, _ => exact mw_27
  | 28, _ => exact mw_28
  | 29, _ => exact mw_29
  | 30, _ => exact mw_30
  | 31, _ => exact mw_31
  | 32, _ => exact mw_32
  | 33, _ => exact mw_33
  | 34, _ => exact mw_34
  | 35, _ => exact mw_35
  | 36, _ => exact mw_36
  | 37, _ => exact mw_37
  | 38, _ => exact mw_38
  | 39, _ => exact mw_39
  | 40, _ => exact mw_40
  | 41, _ => exact mw_41
  | 42, _ => exact mw_42
  | 43, _ => exact mw_43
  | 44, _ => exact mw_44
  | 45, _ => exact mw_45
  | 46, _ => exact mw_46
  | 47, _ => exact mw_47
  | 48, _ => exact mw_48
  | 49, _ => exact mw_49
  | 50, _ => exact mw_50
  | 51, _ => exact mw_51
  | 52, _ => exact mw_52
  | 53, _ => exact mw_53
  | 54, _ => exact mw_54
  | 55, _ => exact mw_55
  | 56, _ => exact mw_56
  | 57, _ => exact mw_57
  | 58, _ => exact mw_58
  | 59, _ => exact mw_59
  | 60, _ => exact mw_60
  | 61, _ => exact mw_61
  | 62, _ => exact mw_62
  | 63, _ => exact mw_63
  | 64, _ => exact mw_64
  | 65, _ => exact mw_65
  | 66, _ => exact mw_66
  | 67, _ => exact mw_67
  | 68, _ => exact mw_68
  | 69, _ => exact mw_69
  | 70, _ => exact mw_70
  | 71, _ => exact mw_71
  | 72, _ => exact mw_72
  | 73, _ => exact mw_73
  | 74, _ => exact mw_74
  | 75, _ => exact mw_75
  | 76, _ => exact mw_76
  | 77, _ => exact mw_77
  | 78, _ => exact mw_78
  | 79, _ => exact mw_79
  | 80, _ => exact mw_80
  | 81, _ => exact mw_81
  | 82, _ => exact mw_82
  | 83, _ => exact mw_83
  | 84, _ => exact mw_84
  | 85, _ => exact mw_85
  | 86, _ => exact mw_86
  | 87, _ => exact mw_87
  | 88, _ => exact mw_88
  | 89, _ => exact mw_89
  | 90, _ => exact mw_90
  | 91, _ => exact mw_91
  | 92, _ => exact mw_92
  | 93, _ => exact mw_93
  | 94, _ => exact mw_94
  | 95, _ => exact mw_95
  | 96, _ => exact mw_96
  | 97, _ => exact mw_97
  | 98, _ => exact mw_98
  | 99, _ => exact mw_99
  | 100, _ => exact mw_100
  | 101, _ => exact mw_101
  | 102, _ => exact mw_102
  | 103, _ => exact mw_103
  | 104, _ => exact mw_104
  | 105, _ => exact mw_105
  | 106, _ => exact mw_106
  | 107, _ => exact mw_107
  | 108, _ => exact mw_108
  | 109, _ => exact mw_109
  | 110, _ => exact mw_110
  | 111, _ => exact mw_111
  | 112, _ => exact mw_112
  | 113, _ => exact mw_113
  | 114, _ => exact mw_114
  | 115, _ => exact mw_115
  | 116, _ => exact mw_116
  | 117, _ => exact mw_117
  | 118, _ => exact mw_118
  | 119, _ => exact mw_119
  | 120, _ => exact mw_120
  | 121, _ => exact mw_121
  | 122, _ => exact mw_122
  | 123, _ => exact mw_123
  | 124, _ => exact mw_124
  | 125, _ => exact mw_125
  | 126, _ => exact mw_126
  | 127, _ => exact mw_127
  | 128, _ => exact mw_128
  | 129, _ => exact mw_129
  | 130, _ => exact mw_130
  | 131, _ => exact mw_131
  | 132, _ => exact mw_132
  | 133, _ => exact mw_133
  | 134, _ => exact mw_134
  | 135, _ => exact mw_135
  | 136, _ => exact mw_136
  | 137, _ => exact mw_137
  | 138, _ => exact mw_138
  | 139, _ => exact mw_139
  | 140, _ => exact mw_140
  | 141, _ => exact mw_141
  | 142, _ => exact mw_142
  | 143, _ => exact mw_143
  | 144, _ => exact mw_144
  | 145, _ => exact mw_145
  | 146, _ => exact mw_146
  | 147, _ => exact mw_147
  | 148, _ => exact mw_148
  | 149, _ => exact mw_149
  | 150, _ => exact mw_150
  | 151, _ => exact mw_151
  | 152, _ => exact mw_152
  | 153, _ => exact mw_153
  | 154, _ => exact mw_154
  | 155, _ => exact mw_155
  | 156, _ => exact mw_156
  | 157, _ => exact mw_157
  | 158, _ => exact mw_158
  | 159, _ => exact mw_159
  | 160, _ => exact mw_160
  | 161, _ => exact mw_161
  | 162, _ => exact mw_162
  | 163, _ => exact mw_163
  | 164, _ => exact mw_164
  | 165, _ => exact mw_165
  | 166, _ => exact mw_166
  | 167, _ => exact mw_167
  | 168, _ => exact mw_168
  | 169, _ => exact mw_169
  | 170, _ => exact mw_170
  | 171, _ => exact mw_171
  | 172, _ => exact mw_172
  | 173, _ => exact mw_173
  | 174, _ => exact mw_174
  | 175, _ => exact mw_175
  | 176, _ => exact mw_176
  | 177, _ => exact mw_177
  | 178, _ => exact mw_178
  | 179, _ => exact mw_179
  | 180, _ => exact mw_180
  | 181, _ => exact mw_181
  | 182, _ => exact mw_182
  | 183, _ => exact mw_183
  | 184, _ => exact mw_184
  | 185, _ => exact mw_185
  | 186, _ => exact mw_186
  | 187, _ => exact mw_187
  | 188, _ => exact mw_188
  | 189, _ => exact mw_189
  | 190, _ => exact mw_190
  | 191, _ => exact mw_191
  | 192, _ => exact mw_192
  | 193, _ => exact mw_193
  | 194, _ => exact mw_194
  | 195, _ => exact mw_195
  | 196, _ => exact mw_196
  | 197, _ => exact mw_197
  | 198, _ => exact mw_198
  | 199, _ => exact mw_199
  | 200, _ => exact mw_200
  | 201, _ => exact mw_201
  | 202, _ => exact mw_202
  | 203, _ => exact mw_203
  | 204, _ => exact mw_204
  | 205, _ => exact mw_205
  | 206, _ => exact mw_206
  | 207, _ => exact mw_207
  | 208, _ => exact mw_208
  | 209, _ => exact mw_209
  | 210, _ => exact mw_210
  | 211, _ => exact mw_211
  | 212, _ => exact mw_212
  | 213, _ => exact mw_213
  | 214, _ => exact mw_214
  | 215, _ => exact mw_215
  | 218, _ => exact mw_218
  | 219, _ => exact mw_219
  | 220, _ => exact mw_220
  | 216, h => exact absurd h (by decide)
  | 217, h => exact absurd h (by decide)
  | k + 221, h => exact absurd h (by omega)
