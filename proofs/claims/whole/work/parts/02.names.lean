/-! the words that hold at every state: those of the tables that no step changes -/
def am_T : List Cond := lw_tbl.filter goodWord
def am_N : List Cond := lw_tbl.filter (fun w => match w with | .methodLinkNest _ _ _ _ => true | _ => false)
def am_T0 : u_T := fun k => match k with
  | 0 => ("WheelDisc$Disc", "lights", "[J", true)
  | 1 => ("WheelDisc$Disc", "trackOf", "[I", true)
  | 2 => ("WheelDisc$Disc", "placeOf", "[I", true)
  | 3 => ("WheelDisc$Disc", "sectors", "I", false)
  | 4 => ("WheelDisc$Disc", "tracks", "I", false)
  | _ => ("WheelDisc$Disc", "readers", "I", false)
def am_ty0 : Nat → FieldType := fun k => match k with
  | 0 => .array .long
  | 1 => .array .int
  | 2 => .array .int
  | 3 => .int
  | 4 => .int
  | _ => .int
def am_T1 : u_T := fun k => match k with
  | 0 => ("WheelDisc$Drive", "words", "[I", true)
  | 1 => ("WheelDisc$Drive", "standCounts", "[I", true)
  | 2 => ("WheelDisc$Drive", "leastStands", "[I", true)
  | 3 => ("WheelDisc$Drive", "isReached", "[Z", true)
  | 4 => ("WheelDisc$Drive", "isReachedNext", "[Z", true)
  | 5 => ("WheelDisc$Drive", "size", "I", false)
  | 6 => ("WheelDisc$Drive", "followed", "I", false)
  | _ => ("WheelDisc$Drive", "slipAt", "I", false)
def am_ty1 : Nat → FieldType := fun k => match k with
  | 0 => .array .int
  | 1 => .array .int
  | 2 => .array .int
  | 3 => .array .boolean
  | 4 => .array .boolean
  | 5 => .int
  | 6 => .int
  | _ => .int
def am_T2 : u_T := fun k => match k with
  | 0 => ("WheelDisc$Form", "row", "[I", true)
  | 1 => ("WheelDisc$Form", "bitAt", "[I", true)
  | 2 => ("WheelDisc$Form", "isParted", "[Z", true)
  | 3 => ("WheelDisc$Form", "sectors", "I", false)
  | 4 => ("WheelDisc$Form", "readers", "I", false)
  | _ => ("WheelDisc$Form", "isStale", "Z", false)
def am_ty2 : Nat → FieldType := fun k => match k with
  | 0 => .array .int
  | 1 => .array .int
  | 2 => .array .boolean
  | 3 => .int
  | 4 => .int
  | _ => .boolean
def am_T3 : u_T := fun k => match k with
  | 0 => ("WheelDisc$History", "ring", "[LWheelDisc$Disc;", true)
  | 1 => ("WheelDisc$History", "next", "I", false)
  | _ => ("WheelDisc$History", "size", "I", false)
def am_ty3 : Nat → FieldType := fun k => match k with
  | 0 => .array (.object "WheelDisc$Disc")
  | 1 => .int
  | _ => .int
def am_T4 : u_T := fun k => match k with
  | _ => ("WheelDisc$Marks", "bits", "[J", true)
def am_ty4 : Nat → FieldType := fun k => match k with
  | _ => .array .long
def am_T5 : u_T := fun k => match k with
  | 0 => ("WheelDisc$Rim", "entries", "[J", true)
  | 1 => ("WheelDisc$Rim", "kind", "I", false)
  | _ => ("WheelDisc$Rim", "size", "I", false)
def am_ty5 : Nat → FieldType := fun k => match k with
  | 0 => .array .long
  | 1 => .int
  | _ => .int
def am_T6 : u_T := fun k => match k with
  | 0 => ("WheelDisc$Search", "sectors", "I", false)
  | 1 => ("WheelDisc$Search", "readers", "I", false)
  | 2 => ("WheelDisc$Search", "spacing", "I", false)
  | 3 => ("WheelDisc$Search", "end", "I", false)
  | 4 => ("WheelDisc$Search", "at", "I", false)
  | 5 => ("WheelDisc$Search", "candidate", "I", false)
  | 6 => ("WheelDisc$Search", "found", "I", false)
  | 7 => ("WheelDisc$Search", "asked", "I", false)
  | _ => ("WheelDisc$Search", "isOpen", "Z", false)
def am_ty6 : Nat → FieldType := fun k => match k with
  | 0 => .int
  | 1 => .int
  | 2 => .int
  | 3 => .int
  | 4 => .int
  | 5 => .int
  | 6 => .int
  | 7 => .int
  | _ => .boolean
def am_T7 : u_T := fun k => match k with
  | 0 => ("WheelDisc$View", "words", "[I", true)
  | 1 => ("WheelDisc$View", "marks", "LWheelDisc$Marks;", true)
  | 2 => ("WheelDisc$View", "sectors", "I", false)
  | 3 => ("WheelDisc$View", "readers", "I", false)
  | _ => ("WheelDisc$View", "isStale", "Z", false)
def am_ty7 : Nat → FieldType := fun k => match k with
  | 0 => .array .int
  | 1 => .object "WheelDisc$Marks"
  | 2 => .int
  | 3 => .int
  | _ => .boolean
def am_T8 : u_T := fun k => match k with
  | 0 => ("WheelDisc$WordList", "words", "[I", true)
  | _ => ("WheelDisc$WordList", "size", "I", false)
def am_ty8 : Nat → FieldType := fun k => match k with
  | 0 => .array .int
  | _ => .int
def am_T9 : u_T := fun k => match k with
  | 0 => ("WheelDisc", "currentRim", "LWheelDisc$Rim;", true)
  | 1 => ("WheelDisc", "currentDisc", "LWheelDisc$Disc;", true)
  | 2 => ("WheelDisc", "history", "LWheelDisc$History;", true)
  | 3 => ("WheelDisc", "view", "LWheelDisc$View;", true)
  | 4 => ("WheelDisc", "currentForm", "LWheelDisc$Form;", true)
  | 5 => ("WheelDisc", "keptForm", "LWheelDisc$Form;", true)
  | 6 => ("WheelDisc", "search", "LWheelDisc$Search;", true)
  | 7 => ("WheelDisc", "currentDrive", "LWheelDisc$Drive;", true)
  | 8 => ("WheelDisc", "list", "LWheelDisc$WordList;", true)
  | 9 => ("WheelDisc", "chainMarks", "LWheelDisc$Marks;", true)
  | 10 => ("WheelDisc", "turnRow", "[J", true)
  | 11 => ("WheelDisc", "isKept", "Z", false)
  | _ => ("WheelDisc", "latestFault", "I", false)
def am_ty9 : Nat → FieldType := fun k => match k with
  | 0 => .object "WheelDisc$Rim"
  | 1 => .object "WheelDisc$Disc"
  | 2 => .object "WheelDisc$History"
  | 3 => .object "WheelDisc$View"
  | 4 => .object "WheelDisc$Form"
  | 5 => .object "WheelDisc$Form"
  | 6 => .object "WheelDisc$Search"
  | 7 => .object "WheelDisc$Drive"
  | 8 => .object "WheelDisc$WordList"
  | 9 => .object "WheelDisc$Marks"
  | 10 => .array .long
  | 11 => .boolean
  | _ => .int
def am_T10 : u_T := fun k => match k with
  | 0 => ("WheelDiscModel", "sizes", "[I", true)
  | 1 => ("WheelDiscModel", "onTrack", "[I", true)
  | 2 => ("WheelDiscModel", "places", "[I", true)
  | 3 => ("WheelDiscModel", "lights", "[Z", true)
  | 4 => ("WheelDiscModel", "past", "I", false)
  | 5 => ("WheelDiscModel", "firstPast", "I", false)
  | 6 => ("WheelDiscModel", "hasKept", "Z", false)
  | 7 => ("WheelDiscModel", "rimKind", "I", false)
  | 8 => ("WheelDiscModel", "rimMany", "I", false)
  | 9 => ("WheelDiscModel", "rim", "[J", true)
  | 10 => ("WheelDiscModel", "drive", "[I", true)
  | 11 => ("WheelDiscModel", "driven", "I", false)
  | 12 => ("WheelDiscModel", "list", "[I", true)
  | 13 => ("WheelDiscModel", "listed", "I", false)
  | 14 => ("WheelDiscModel", "searchSize", "I", false)
  | 15 => ("WheelDiscModel", "searchReaders", "I", false)
  | 16 => ("WheelDiscModel", "searchNext", "I", false)
  | 17 => ("WheelDiscModel", "asked", "I", false)
  | 18 => ("WheelDiscModel", "fault", "I", false)
  | 19 => ("WheelDiscModel", "words", "[I", true)
  | 20 => ("WheelDiscModel", "best", "[I", true)
  | 21 => ("WheelDiscModel", "other", "[I", true)
  | 22 => ("WheelDiscModel", "order", "[I", true)
  | 23 => ("WheelDiscModel", "now", "[Z", true)
  | 24 => ("WheelDiscModel", "then", "[Z", true)
  | 25 => ("WheelDiscModel", "mirrored", "Z", false)
  | 26 => ("WheelDiscModel", "first", "I", false)
  | 27 => ("WheelDiscModel", "kept", "[I", true)
  | 28 => ("WheelDiscModel", "letters", "[I", true)
  | 29 => ("WheelDiscModel", "strung", "I", false)
  | _ => ("WheelDiscModel", "slipped", "I", false)
def am_ty10 : Nat → FieldType := fun k => match k with
  | 0 => .array .int
  | 1 => .array .int
  | 2 => .array .int
  | 3 => .array .boolean
  | 4 => .int
  | 5 => .int
  | 6 => .boolean
  | 7 => .int
  | 8 => .int
  | 9 => .array .long
  | 10 => .array .int
  | 11 => .int
  | 12 => .array .int
  | 13 => .int
  | 14 => .int
  | 15 => .int
  | 16 => .int
  | 17 => .int
  | 18 => .int
  | 19 => .array .int
  | 20 => .array .int
  | 21 => .array .int
  | 22 => .array .int
  | 23 => .array .boolean
  | 24 => .array .boolean
  | 25 => .boolean
  | 26 => .int
  | 27 => .array .int
  | 28 => .array .int
  | 29 => .int
  | _ => .int
/-- the classes whose objects the world holds: name, fields, how many -/
def am_cl : List vw_C := [("WheelDisc$Disc", am_T0, 6), ("WheelDisc$Drive", am_T1, 8), ("WheelDisc$Form", am_T2, 6), ("WheelDisc$History", am_T3, 3), ("WheelDisc$Marks", am_T4, 1), ("WheelDisc$Rim", am_T5, 3), ("WheelDisc$Search", am_T6, 9), ("WheelDisc$View", am_T7, 5), ("WheelDisc$WordList", am_T8, 2), ("WheelDisc", am_T9, 13), ("WheelDiscModel", am_T10, 31)]
def am_tyf : Nat → Nat → FieldType := fun c => match c with
  | 0 => am_ty0
  | 1 => am_ty1
  | 2 => am_ty2
  | 3 => am_ty3
  | 4 => am_ty4
  | 5 => am_ty5
  | 6 => am_ty6
  | 7 => am_ty7
  | 8 => am_ty8
  | 9 => am_ty9
  | _ => am_ty10
/-- kinds of the fields: 0 an int, 1 a boolean, 2 a reference -/
def am_fks : List (List Nat) := [[2, 2, 2, 0, 0, 0], [2, 2, 2, 2, 2, 0, 0, 0], [2, 2, 2, 0, 0, 1], [2, 0, 0], [2], [2, 0, 0], [0, 0, 0, 0, 0, 0, 0, 0, 1], [2, 2, 0, 0, 1], [2, 0], [2, 2, 2, 2, 2, 2, 2, 2, 2, 2, 2, 1, 0], [2, 2, 2, 2, 0, 0, 1, 0, 0, 2, 2, 0, 2, 0, 0, 0, 0, 0, 0, 2, 2, 2, 2, 2, 2, 1, 0, 2, 2, 0, 0]]
def am_fk (c i : Nat) : Nat := (am_fks.getD c []).getD i 9
/-- the cells: kind (0 .. 10 an object of that class, 11 ints, 12 longs, 13 booleans, 14 discs; 15 the script) and length -/
def am_lay : List (Nat × Nat) := [(9, 13), (5, 3), (12, 64), (0, 6), (12, 80), (11, 10), (11, 10), (3, 3), (14, 30), (7, 5), (11, 512), (4, 1), (12, 16), (2, 6), (11, 512), (11, 10), (13, 10), (2, 6), (11, 512), (11, 10), (13, 10), (6, 9), (1, 8), (11, 2000), (11, 2000), (11, 2000), (13, 512), (13, 512), (8, 2), (11, 512), (4, 1), (12, 16), (12, 8)]
def am_layR : List (Nat × Nat) := [(0, 6), (12, 80), (11, 10), (11, 10)]
def am_layM : List (Nat × Nat) := [(10, 31), (11, 96), (11, 320), (11, 320), (13, 163840), (12, 64), (11, 2000), (11, 512), (11, 512), (11, 512), (11, 512), (11, 10), (13, 512), (13, 512), (11, 512), (11, 16)]
def am_cell (k : Nat) : Nat × Nat := if k < 33 then am_lay.getD k (99, 0) else if k < 153 then am_layR.getD ((k - 33) % 4) (99, 0) else am_layM.getD (k - 153) (99, 0)
def am_kind (k : Nat) : Nat := (am_cell k).1
def am_len (k : Nat) : Nat := (am_cell k).2
def am_linkM : List Nat := [154, 155, 156, 157, 0, 0, 0, 0, 0, 158, 159, 0, 160, 0, 0, 0, 0, 0, 0, 161, 162, 163, 164, 165, 166, 0, 0, 167, 168, 0, 0]
/-- which cell a reference field, or a place of the ring, holds -/
def am_link (k i : Nat) : Nat := if k = 0 then [1, 3, 7, 9, 13, 17, 21, 22, 28, 30, 32].getD i 0 else if k = 8 then 33 + 4 * i else if k = 153 then am_linkM.getD i 0 else k + 1 + i
theorem am_cl_ok : ∀ ci, ci < 11 → ∀ q, am_cl[ci]? = some q → (∀ w ∈ u_ws q.1 q.2.1 q.2.2, w ∈ am_T) ∧ (∀ k, k < q.2.2 → parseFieldDescriptor (q.2.1 k).2.2.1 = some (am_tyf ci k) ∧ (q.2.1 k).1 = q.1 ∧ (am_fk ci k = 0 ∧ am_tyf ci k = .int ∧ (q.2.1 k).2.2.2 = false ∨ am_fk ci k = 1 ∧ am_tyf ci k = .boolean ∧ (q.2.1 k).2.2.2 = false ∨ am_fk ci k = 2)) ∧ (∀ a, a < q.2.2 → ∀ b, b < q.2.2 → a ≠ b → (q.2.1 a).2.1 ≠ (q.2.1 b).2.1) := by
  intro ci h q hq
  match ci, h, hq with
  | 0, _, hq => cases hq; exact ⟨by decide +kernel, by decide +kernel, by decide +kernel⟩
  | 1, _, hq => cases hq; exact ⟨by decide +kernel, by decide +kernel, by decide +kernel⟩
  | 2, _, hq => cases hq; exact ⟨by decide +kernel, by decide +kernel, by decide +kernel⟩
  | 3, _, hq => cases hq; exact ⟨by decide +kernel, by decide +kernel, by decide +kernel⟩
  | 4, _, hq => cases hq; exact ⟨by decide +kernel, by decide +kernel, by decide +kernel⟩
  | 5, _, hq => cases hq; exact ⟨by decide +kernel, by decide +kernel, by decide +kernel⟩
  | 6, _, hq => cases hq; exact ⟨by decide +kernel, by decide +kernel, by decide +kernel⟩
  | 7, _, hq => cases hq; exact ⟨by decide +kernel, by decide +kernel, by decide +kernel⟩
  | 8, _, hq => cases hq; exact ⟨by decide +kernel, by decide +kernel, by decide +kernel⟩
  | 9, _, hq => cases hq; exact ⟨by decide +kernel, by decide +kernel, by decide +kernel⟩
  | 10, _, hq => cases hq; exact ⟨by decide +kernel, by decide +kernel, by decide +kernel⟩
  | n + 11, h, _ => exact absurd h (by omega)
