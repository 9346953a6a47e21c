/-! Printed by wip/whole/gen.py: the classes and their fields, the words, the methods with their tables. -/
def fT_Bo : u_T := fun k => match k with
  | 0 => ("PegBoards$Board", "numbers", "[I", true)
  | 1 => ("PegBoards$Board", "rows", "[I", true)
  | 2 => ("PegBoards$Board", "columns", "[I", true)
  | 3 => ("PegBoards$Board", "triangular", "Z", false)
  | 4 => ("PegBoards$Board", "frozen", "Z", false)
  | _ => ("PegBoards$Board", "drawn", "I", false)
def fT_Fo : u_T := fun k => match k with
  | 0 => ("PegBoards$Found", "positions", "[I", true)
  | 1 => ("PegBoards$Found", "slots", "[I", true)
  | _ => ("PegBoards$Found", "size", "I", false)
def fT_Ju : u_T := fun k => match k with
  | 0 => ("PegBoards$Jumps", "froms", "[I", true)
  | 1 => ("PegBoards$Jumps", "overs", "[I", true)
  | 2 => ("PegBoards$Jumps", "tos", "[I", true)
  | 3 => ("PegBoards$Jumps", "pegs", "[I", true)
  | 4 => ("PegBoards$Jumps", "touched", "[I", true)
  | _ => ("PegBoards$Jumps", "size", "I", false)
def fT_Re : u_T := fun k => match k with
  | 0 => ("PegBoards$Reaching", "found", "LPegBoards$Found;", true)
  | 1 => ("PegBoards$Reaching", "leasts", "LPegBoards$Found;", true)
  | 2 => ("PegBoards$Reaching", "cameFrom", "[I", true)
  | 3 => ("PegBoards$Reaching", "cameBy", "[I", true)
  | 4 => ("PegBoards$Reaching", "fewest", "[I", true)
  | 5 => ("PegBoards$Reaching", "lastHoles", "[I", true)
  | _ => ("PegBoards$Reaching", "limitMet", "Z", false)
def fT_Sy : u_T := fun k => match k with
  | 0 => ("PegBoards$Symmetries", "taken", "[[I", true)
  | 1 => ("PegBoards$Symmetries", "imageRows", "[I", true)
  | 2 => ("PegBoards$Symmetries", "imageColumns", "[I", true)
  | 3 => ("PegBoards$Symmetries", "holes", "I", false)
  | _ => ("PegBoards$Symmetries", "size", "I", false)
def fT_We : u_T := fun k => match k with
  | 0 => ("PegBoards$Weights", "kept", "[I", true)
  | _ => ("PegBoards$Weights", "tried", "[I", true)
def fT_Pe : u_T := fun k => match k with
  | 0 => ("PegBoards", "board", "LPegBoards$Board;", true)
  | 1 => ("PegBoards", "jumps", "LPegBoards$Jumps;", true)
  | 2 => ("PegBoards", "images", "LPegBoards$Symmetries;", true)
  | 3 => ("PegBoards", "reaching", "LPegBoards$Reaching;", true)
  | 4 => ("PegBoards", "weighing", "LPegBoards$Weights;", true)
  | 5 => ("PegBoards", "start", "I", false)
  | _ => ("PegBoards", "goal", "I", false)
def fT_Mo : u_T := fun k => match k with
  | 0 => ("PegBoardsModel", "code", "I", false)
  | 1 => ("PegBoardsModel", "triangular", "Z", false)
  | 2 => ("PegBoardsModel", "frozen", "Z", false)
  | 3 => ("PegBoardsModel", "holes", "I", false)
  | 4 => ("PegBoardsModel", "drawn", "[Z", true)
  | 5 => ("PegBoardsModel", "numbers", "[I", true)
  | 6 => ("PegBoardsModel", "rows", "[I", true)
  | 7 => ("PegBoardsModel", "columns", "[I", true)
  | 8 => ("PegBoardsModel", "jumps", "I", false)
  | 9 => ("PegBoardsModel", "from", "[I", true)
  | 10 => ("PegBoardsModel", "over", "[I", true)
  | 11 => ("PegBoardsModel", "to", "[I", true)
  | 12 => ("PegBoardsModel", "images", "I", false)
  | 13 => ("PegBoardsModel", "image", "[I", true)
  | 14 => ("PegBoardsModel", "newRows", "[I", true)
  | 15 => ("PegBoardsModel", "newColumns", "[I", true)
  | 16 => ("PegBoardsModel", "begin", "I", false)
  | 17 => ("PegBoardsModel", "end", "I", false)
  | 18 => ("PegBoardsModel", "weight", "[I", true)
  | 19 => ("PegBoardsModel", "trial", "[I", true)
  | 20 => ("PegBoardsModel", "found", "I", false)
  | 21 => ("PegBoardsModel", "position", "[I", true)
  | 22 => ("PegBoardsModel", "parent", "[I", true)
  | 23 => ("PegBoardsModel", "via", "[I", true)
  | 24 => ("PegBoardsModel", "open", "[I", true)
  | 25 => ("PegBoardsModel", "fewest", "[I", true)
  | 26 => ("PegBoardsModel", "kinds", "I", false)
  | _ => ("PegBoardsModel", "kind", "[I", true)
abbrev vwCl : List vw_C := [("PegBoards$Board", fT_Bo, 6), ("PegBoards$Found", fT_Fo, 3), ("PegBoards$Jumps", fT_Ju, 6), ("PegBoards$Reaching", fT_Re, 7), ("PegBoards$Symmetries", fT_Sy, 5), ("PegBoards$Weights", fT_We, 2), ("PegBoards", fT_Pe, 7), ("PegBoardsModel", fT_Mo, 28)]
theorem mx_ty : ∀ (ci : Nat) (C : String) (T0 : u_T) (N : Nat), vwCl[ci]? = some (C, T0, N) → ∃ ty0 : Nat → FieldType, (∀ k, k < N → parseFieldDescriptor (T0 k).2.2.1 = some (ty0 k)) ∧ ∀ a, a < N → ∀ b, b < N → a ≠ b → (T0 a).2.1 ≠ (T0 b).2.1 := by
  intro ci C T0 N h
  refine ⟨fun k => (parseFieldDescriptor (T0 k).2.2.1).getD .int, ?_⟩
  match ci, h with
  | 0, h => cases h; exact ⟨by decide +kernel, by decide +kernel⟩
  | 1, h => cases h; exact ⟨by decide +kernel, by decide +kernel⟩
  | 2, h => cases h; exact ⟨by decide +kernel, by decide +kernel⟩
  | 3, h => cases h; exact ⟨by decide +kernel, by decide +kernel⟩
  | 4, h => cases h; exact ⟨by decide +kernel, by decide +kernel⟩
  | 5, h => cases h; exact ⟨by decide +kernel, by decide +kernel⟩
  | 6, h => cases h; exact ⟨by decide +kernel, by decide +kernel⟩
  | 7, h => cases h; exact ⟨by decide +kernel, by decide +kernel⟩
  | k + 8, h => cases h
def mx_WS : List Cond := lw_tbl.filter goodWord
def mx_nk (w : Cond) : Bool := match w with
  | .methodLinkNest _ _ _ _ => true
  | .fieldLinkNest _ _ _ _ _ _ => true
  | .declares _ => true
  | .castable _ _ => true
  | _ => false
def mx_NW : List Cond := lw_tbl.filter mx_nk
def mx_SR : List (String × Nat × String) := [("PegBoards", 66, "no such place"), ("PegBoards", 76, "no hole can be drawn there now"), ("PegBoards", 87, "the board is frozen or has no hole"), ("PegBoards", 215, "no such jump"), ("PegBoards", 120, "no such part of a jump"), ("PegBoards", 213, "the position has a hole that there is none"), ("PegBoards", 208, "the board is not frozen"), ("PegBoards", 199, "no such limit"), ("PegBoards", 152, "no such symmetry"), ("PegBoards", 217, "no such hole"), ("PegBoards", 172, "no such weight"), ("PegBoards", 185, "less than 0"), ("PegBoards", 193, "too many holes to try weights")]
def mx_NC : List (String × String) := [("java/lang/IllegalArgumentException", "java/lang/IllegalStateException"), ("java/lang/IllegalArgumentException", "java/lang/IndexOutOfBoundsException"), ("java/lang/IllegalStateException", "java/lang/IllegalArgumentException"), ("java/lang/IllegalStateException", "java/lang/IndexOutOfBoundsException"), ("java/lang/IndexOutOfBoundsException", "java/lang/IllegalArgumentException"), ("java/lang/IndexOutOfBoundsException", "java/lang/IllegalStateException")]
def mx_SA : List String := ["SQUARE_ROW_STEPS", "SQUARE_COLUMN_STEPS", "TRIANGULAR_ROW_STEPS", "TRIANGULAR_COLUMN_STEPS"]
