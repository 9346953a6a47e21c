/-! What a method is, and what its tables and call sites ask of the words. -/
section MY
/-- fl: a field by its number in the pool: the class's number, the place, 0: read alone, 1: an int is written, 2: a boolean -/
abbrev mx_F : Type := List (Nat × Nat × Nat × Nat)
abbrev mx_B : Type := List (Nat × Instr × Nat)
/-- a method: name, bytes, number of locals, what it returns, whose it is, its handlers, its words -/
abbrev mx_Y : Type := MethodName × ByteArray × Nat × Option FieldType × String × List (Nat × Nat × Nat × Nat) × List Cond
abbrev mx_nm (Y : mx_Y) : MethodName := Y.1
abbrev mx_bs (Y : mx_Y) : ByteArray := Y.2.1
abbrev mx_ml (Y : mx_Y) : Nat := Y.2.2.1
abbrev mx_rt (Y : mx_Y) : Option FieldType := Y.2.2.2.1
abbrev mx_ow (Y : mx_Y) : String := Y.2.2.2.2.1
abbrev mx_hh (Y : mx_Y) : List (Nat × Nat × Nat × Nat) := Y.2.2.2.2.2.1
abbrev mx_ws (Y : mx_Y) : List Cond := Y.2.2.2.2.2.2
/-- fields by the pool: right, and written only as they may be -/
def mx_fo (own : String) (f : Nat × Nat × Nat × Nat) : Bool := match vwCl[f.2.1]? with
  | some q => decide (f.2.2.1 < q.2.2) && decide ((q.2.1 f.2.2.1).1 = q.1) && decide (Cond.fieldLink own f.1 q.1 (q.2.1 f.2.2.1).2.1 (q.2.1 f.2.2.1).2.2.1 ∈ mx_WS) && (u_ws q.1 q.2.1 q.2.2).all (fun w => decide (w ∈ mx_WS)) &&
    (decide (f.2.2.2 = 0) || (!(q.2.1 f.2.2.1).2.2.2 && decide (parseFieldDescriptor (q.2.1 f.2.2.1).2.2.1 = some (if f.2.2.2 = 2 then .boolean else .int))))
  | none => false
def mx_ok (Y : mx_Y) (fl : mx_F) (tab : mx_B) : Prop := (∀ x ∈ tab, decode (mx_bs Y) x.1 = .ok (x.2.1, x.2.2)) ∧ fl.all (mx_fo (mx_ow Y)) = true ∧ ∀ w ∈ mx_WS, w ∈ mx_ws Y
/-- what a call's site asks of the words -/
def mx_cdb (Y' : mx_Y) (n : Nat) : Bool := decide (Cond.initialized (mx_nm Y').cls ∈ mx_WS) && decide (Cond.code (mx_nm Y') (mx_bs Y') (mx_ml Y') (mx_rt Y') ∈ mx_WS) && decide ((mx_nm Y').cls ≠ "java/lang/invoke/MethodHandle") && decide ((mx_nm Y').cls ≠ "java/lang/invoke/VarHandle") && decide ((parseMethodDescriptor (mx_nm Y').desc).map (fun d => d.parameters.length) = some n) && decide (mx_ml Y' ≤ 40)
def mx_cvb (own : String) (idx : Nat) (Y' : mx_Y) : Bool := decide (Cond.methodLink own idx (mx_nm Y') ∈ mx_WS) && decide (Cond.instanceMethod (mx_nm Y') ∈ mx_WS) && decide (Cond.selects (mx_nm Y').cls (mx_nm Y') (mx_nm Y') ∈ mx_WS)
def mx_csb (own : String) (idx : Nat) (Y' : mx_Y) : Bool := decide (Cond.methodLink own idx (mx_nm Y') ∈ mx_WS) && decide (Cond.static (mx_nm Y') ∈ mx_WS)
def mx_cnb (own : String) (idx : Nat) (Y' : mx_Y) : Bool := decide (Cond.methodLinkNest own idx (mx_nm Y') "PegBoards" ∈ mx_NW) && decide (Cond.static (mx_nm Y') ∈ mx_WS)
end MY
