/-! A machine of our own over the kit's: the numbers of all cells are one function M (cell, place); the references in the cells never change (LK). A method's contract (mx_Ct) and a point of its body (mx_E) speak of M alone. -/
section MX
abbrev mx_M : Type := Nat → Nat → Int32
/-- what a cell is: n ints; an object of a class by its number, its fields (none: a number; some k: the cell k); an array of cells; n longs; n booleans -/
abbrev mx_K : Type := Nat ⊕ ((Nat × List (Option Nat)) ⊕ (List Nat ⊕ (Nat ⊕ Nat)))
/-- the array classes: ints, arrays of ints, longs, booleans -/
abbrev mx_T : Type := ClassId × ClassId × ClassId × ClassId
def mx_tys (T : mx_T) : List (ClassId × FieldType) := [(T.1, .int), (T.2.1, .array .int), (T.2.2.1, .long), (T.2.2.2, .boolean)]
def mx_v (ad : Nat → Nat) (v : Value) : Value := match v with
  | .ref k => .ref (ad k)
  | .int x => .int x
  | .long x => .long x
  | w => w
def mx_fv (ad : Nat → Nat) (g : Nat → Int32) (j : Nat) (o : Option Nat) : Value := match o with
  | none => Value.int (g j)
  | some k => Value.ref (ad k)
def mx_fs (ad : Nat → Nat) (g : Nat → Int32) (fs : List (Option Nat)) : List Value := fs.mapIdx (mx_fv ad g)
def mx_cell (T : mx_T) (ad : Nat → Nat) (K : mx_K) (g : Nat → Int32) : va_E := match K with
  | .inl n => .inl (T.1, n, .inl g)
  | .inr (.inl o) => .inr (o.1, mx_fs ad g o.2)
  | .inr (.inr (.inl rs)) => .inl (T.2.1, rs.length, .inr (.inr (.inr (.inr (fun j => (rs[j]?).map ad)))))
  | .inr (.inr (.inr (.inl n))) => .inl (T.2.2.1, n, .inr (.inl (fun j => (g j).toInt64)))
  | .inr (.inr (.inr (.inr n))) => .inl (T.2.2.2, n, .inl g)
/-- the cells; arrays of ints that nobody writes (their numbers as cells: 1000, 1001 ..): length, contents -/
abbrev mx_L : Type := List mx_K × List (Nat × (Nat → Int32))
def mx_lay (T : mx_T) (ad : Nat → Nat) (LK : mx_L) (M : mx_M) : va_W := LK.1.mapIdx (fun k K => (ad k, mx_cell T ad K (M k)))
def mx_up (M : mx_M) (k i : Nat) (v : Int32) : mx_M := fun a j => if a = k then (if j = i then v else M a j) else M a j
theorem mx_lay_get {T : mx_T} {ad : Nat → Nat} {LK : mx_L} {M : mx_M} {k : Nat} {K : mx_K} (h : LK.1[k]? = some K) : (mx_lay T ad LK M)[k]? = some (ad k, mx_cell T ad K (M k)) := by
  simp [mx_lay, h]
theorem mx_lay_of {T : mx_T} {ad : Nat → Nat} {LK : mx_L} {M : mx_M} {k : Nat} {q : Nat × va_E} (h : (mx_lay T ad LK M)[k]? = some q) : k < LK.1.length ∧ q.1 = ad k := by
  simp only [mx_lay, List.getElem?_mapIdx, Option.map_eq_some_iff] at h
  obtain ⟨K, hK, rfl⟩ := h
  exact ⟨(List.getElem?_eq_some_iff.mp hK).1, rfl⟩
theorem mx_up_row (M : mx_M) (k i : Nat) (v : Int32) : mx_up M k i v k = upd (M k) i v := by
  funext j; simp [mx_up, upd]
theorem mx_up_off {M : mx_M} {k i a : Nat} {v : Int32} (h : a ≠ k) : mx_up M k i v a = M a := by
  funext j; simp [mx_up, h]
theorem mx_lay_up {T : mx_T} {ad : Nat → Nat} {LK : mx_L} {M : mx_M} {k i : Nat} {v : Int32} {K : mx_K} (h : LK.1[k]? = some K) :
    (mx_lay T ad LK M).set k (ad k, mx_cell T ad K (upd (M k) i v)) = mx_lay T ad LK (mx_up M k i v) := by
  apply List.ext_getElem?
  intro j
  rw [List.getElem?_set]
  have hl : k < LK.1.length := (List.getElem?_eq_some_iff.mp h).1
  by_cases hj : k = j
  · subst hj
    rw [if_pos rfl, mx_lay_get h, mx_up_row]
    simp [mx_lay, hl]
  · rw [if_neg hj]
    simp only [mx_lay, List.getElem?_mapIdx]
    rw [mx_up_off (Ne.symm hj)]
theorem mx_fs_get {ad : Nat → Nat} {g : Nat → Int32} {fs : List (Option Nat)} {j : Nat} {o : Option Nat} (h : fs[j]? = some o) :
    (mx_fs ad g fs)[j]? = some (mx_fv ad g j o) := by
  simp [mx_fs, h]
theorem mx_fs_set {ad : Nat → Nat} {g : Nat → Int32} {fs : List (Option Nat)} {j : Nat} {v : Int32} (h : fs[j]? = some none) :
    (mx_fs ad g fs).set j (.int v) = mx_fs ad (upd g j v) fs := by
  apply List.ext_getElem?
  intro i
  rw [List.getElem?_set]
  have hl : j < fs.length := (List.getElem?_eq_some_iff.mp h).1
  by_cases hj : j = i
  · subst hj
    rw [if_pos rfl, mx_fs_get h]
    simp [mx_fs, hl, upd, mx_fv]
  · rw [if_neg hj]
    simp only [mx_fs, List.getElem?_mapIdx]
    cases fs[i]? with
    | none => rfl
    | some o => cases o with
      | none => simp [upd, Ne.symm hj, mx_fv]
      | some k => rfl
/-- addresses: apart, and in A -/
def mx_ad (LK : mx_L) (ad : Nat → Nat) : Prop := ∀ i j, i < LK.1.length → j < LK.1.length → ad i = ad j → i = j
theorem mx_D {T : mx_T} {ad : Nat → Nat} {LK : mx_L} {A : Nat → Prop} (h : mx_ad LK ad) (hA : ∀ k, k < LK.1.length → A (ad k)) (M : mx_M) : va_D A (mx_lay T ad LK M) := by
  refine ⟨fun i j p q hp hq e => ?_, fun k q hk => ?_⟩
  · obtain ⟨h1, h2⟩ := mx_lay_of hp
    obtain ⟨h3, h4⟩ := mx_lay_of hq
    exact h i j h1 h3 (by rw [← h2, ← h4, e])
  · obtain ⟨h1, h2⟩ := mx_lay_of hk
    rw [h2]; exact hA k h1
/-- the locals: one slot a value; .null: not known -/
def mx_ls (ad : Nat → Nat) (nL : Nat) (ls : List Value) (la : Array Slot) : Prop := ls.length = nL ∧ la.size = nL ∧ lv_wf la ∧ (∀ (i : Nat) (x : Int32), ls[i]? = some (Value.int x) → la[i]? = some (Slot.val (.int x))) ∧ ∀ (i a : Nat), ls[i]? = some (Value.ref a) → la[i]? = some (Slot.val (.ref (ad a)))
def mx_pr (ad : Nat → Nat) (ls : List Value) : List (Nat × Value) := (List.range ls.length).filterMap (fun (j : Nat) => match (ls[j]? : Option Value) with
  | some (.int x) => some (j, .int x)
  | some (.ref a) => some (j, .ref (ad a))
  | _ => none)
theorem mx_ls_has {ad : Nat → Nat} {nL : Nat} {ls : List Value} {la : Array Slot} (h : mx_ls ad nL ls la) : lv_has la nL (mx_pr ad ls) := by
  obtain ⟨-, h2, h3, h4, h5⟩ := h
  refine ⟨h2, h3, fun q hq => ?_⟩
  obtain ⟨j, -, hj⟩ := List.mem_filterMap.mp hq
  split at hj
  next x hx => cases hj; exact h4 _ _ hx
  next a ha => cases hj; exact h5 _ _ ha
  next => cases hj
theorem mx_pr_int {ad : Nat → Nat} {ls : List Value} {i : Nat} {x : Int32} (h : ls[i]? = some (.int x)) : (i, Value.int x) ∈ mx_pr ad ls :=
  List.mem_filterMap.mpr ⟨i, List.mem_range.mpr (List.getElem?_eq_some_iff.mp h).1, by rw [h]⟩
theorem mx_pr_ref {ad : Nat → Nat} {ls : List Value} {i a : Nat} (h : ls[i]? = some (.ref a)) : (i, Value.ref (ad a)) ∈ mx_pr ad ls :=
  List.mem_filterMap.mpr ⟨i, List.mem_range.mpr (List.getElem?_eq_some_iff.mp h).1, by rw [h]⟩
/-- behind a store of a number or a cell -/
theorem mx_ls_st {ad : Nat → Nat} {nL : Nat} {ls : List Value} {la la' : Array Slot} (h : mx_ls ad nL ls la) {i : Nat} {w : Value} (hi : i < nL) (hw : (∃ x, w = .int x) ∨ ∃ a, w = .ref a)
    (h' : lv_has la' nL ((i, mx_v ad w) :: (mx_pr ad ls).filter (fun q => !(q.1 == i) && !(q.1 + 1 == i && q.2.category == 2)))) : mx_ls ad nL (ls.set i w) la' := by
  obtain ⟨hn, -⟩ := h
  obtain ⟨h2, h3, h4⟩ := h'
  refine ⟨by rw [List.length_set]; exact hn, h2, h3, fun j x hx => ?_, fun j a ha => ?_⟩
  · rw [List.getElem?_set] at hx
    by_cases hj : i = j
    · subst hj
      rw [if_pos rfl, if_pos (by omega)] at hx
      cases hx
      exact h4 _ List.mem_cons_self
    · rw [if_neg hj] at hx
      refine h4 (j, .int x) (List.mem_cons_of_mem _ (List.mem_filter.mpr ⟨mx_pr_int hx, ?_⟩))
      simp [Value.category, Ne.symm hj]
  · rw [List.getElem?_set] at ha
    by_cases hj : i = j
    · subst hj
      rw [if_pos rfl, if_pos (by omega)] at ha
      cases ha
      exact h4 _ List.mem_cons_self
    · rw [if_neg hj] at ha
      refine h4 (j, .ref (ad a)) (List.mem_cons_of_mem _ (List.mem_filter.mpr ⟨mx_pr_ref ha, ?_⟩))
      simp [Value.category, Ne.symm hj]
/-- the locals at a method's start -/
theorem mx_args {ad : Nat → Nat} : ∀ (a : List Value) (i : Nat), (∀ v ∈ a, (∃ x, v = .int x) ∨ ∃ k, v = .ref k) → ∀ j w, a[j]? = some w → (i + j, mx_v ad w) ∈ lv_args i (a.map (mx_v ad)) := by
  intro a
  induction a with
  | nil => intro i _ j w h; simp at h
  | cons v t ih =>
    intro i hc j w h
    have hv : (mx_v ad v).category = 1 := by rcases hc v List.mem_cons_self with ⟨x, rfl⟩ | ⟨k, rfl⟩ <;> rfl
    rw [List.map_cons, lv_args, hv, if_neg (by decide)]
    cases j with
    | zero => simp at h; subst h; exact List.mem_cons_self
    | succ j =>
      have := ih (i + 1) (fun u hu => hc u (List.mem_cons_of_mem _ hu)) j w (by simpa using h)
      rw [show i + 1 + j = i + (j + 1) by omega] at this
      exact List.mem_cons_of_mem _ this
theorem mx_sl {ad : Nat → Nat} : ∀ (a : List Value), (∀ v ∈ a, (∃ x, v = .int x) ∨ ∃ k, v = .ref k) → (lg_sl (a.map (mx_v ad))).length = a.length := by
  intro a
  induction a with
  | nil => intro _; rfl
  | cons v t ih =>
    intro hc
    have hv : (mx_v ad v).category = 1 := by rcases hc v List.mem_cons_self with ⟨x, rfl⟩ | ⟨k, rfl⟩ <;> rfl
    have h2 := ih (fun u hu => hc u (List.mem_cons_of_mem _ hu))
    simp only [lg_sl, List.map_cons, List.flatMap_cons, hv] at h2 ⊢
    simp [h2]
theorem mx_ls_0 {ad : Nat → Nat} {n : Nat} (a : List Value) (hc : ∀ v ∈ a, (∃ x, v = .int x) ∨ ∃ k, v = .ref k) (hn : a.length ≤ n) :
    mx_ls ad n (a ++ List.replicate (n - a.length) .null) ((lg_sl (a.map (mx_v ad)) ++ List.replicate (n - (lg_sl (a.map (mx_v ad))).length) Slot.unset).toArray) := by
  obtain ⟨h1, h2, h3⟩ := lv_entry (a.map (mx_v ad)) (n := n) (by rw [mx_sl a hc]; exact hn)
  have key : ∀ (j : Nat) (w : Value), (a ++ List.replicate (n - a.length) Value.null)[j]? = some w → w ≠ Value.null → a[j]? = some w := by
    intro j w h hw
    rw [List.getElem?_append] at h
    split at h
    · exact h
    · rw [List.getElem?_replicate] at h
      split at h
      · cases h; exact absurd rfl hw
      · cases h
  refine ⟨by simp; omega, h1, h2, fun j x h => ?_, fun j k h => ?_⟩
  · have := mx_args (ad := ad) a 0 hc j _ (key j _ h (fun e => by cases e))
    exact h3 _ (by simpa [mx_v] using this)
  · have := mx_args (ad := ad) a 0 hc j _ (key j _ h (fun e => by cases e))
    exact h3 _ (by simpa [mx_v] using this)
/-- an array of ints that nobody writes: its first L places, its length as arraylength tells it -/
def mx_X (b L : Nat) (xs : Nat → Int32) (U : State) (H : Heap) : Prop := ∃ scr : Cell, H[b]? = some scr ∧ U.isArrayOf scr .int ∧ scr.vm ≠ .unknown ∧ L ≤ scr.slots.size ∧ scr.slots.size.toInt32 = Int32.ofNat L ∧ ∀ j : Nat, j < L → scr.slots[j]? = some (.int (xs j))
theorem mx_X.kept {b L : Nat} {xs : Nat → Int32} {U : State} {H H1 : Heap} (h : mx_X b L xs U H) (hq : H1[b]? = H[b]?) : mx_X b L xs U H1 := by
  obtain ⟨scr, h1, h2⟩ := h
  exact ⟨scr, by rw [hq]; exact h1, h2⟩
theorem mx_X.moved {b L : Nat} {xs : Nat → Int32} {u U : State} {H : Heap} (hvm : u.vm.Alike U.vm) (h : mx_X b L xs u H) : mx_X b L xs U H := by
  obtain ⟨scr, h1, h2, h3⟩ := h
  exact ⟨scr, h1, State.isArrayOf_alike hvm h2, h3⟩
/-- what never changes: words that no list carries, texts, classes that aren't one another's, statics -/
def mx_Z (LK : mx_L) (ad : Nat → Nat) (A : Nat → Prop) (U : State) (H : Heap) : Prop :=
  (∀ w ∈ mx_NW, va_Nw w U) ∧ (∀ q ∈ mx_SR, ∃ a, vk_R q.1 q.2.1 q.2.2 a U) ∧ (∀ q ∈ mx_NC, va_Nc q.1 q.2 U) ∧ vx_Zq Bundle.tN "UNASSIGNED_STACK" Bundle.steD A U H ∧ vx_Zq Bundle.tN "SUPPRESSED_SENTINEL" Bundle.listD A U H ∧
  (∀ (i : Nat) (nm : String), mx_SA[i]? = some nm → va_Z "PegBoards" nm "[I" (.ref (ad (1000 + i))) A U H) ∧
  ∀ (i : Nat) (q : Nat × (Nat → Int32)), LK.2[i]? = some q → mx_X (ad (1000 + i)) q.1 q.2 U H ∧ ad (1000 + i) < H.size ∧ ¬ A (ad (1000 + i))
theorem mx_nk_warm {w : Cond} {s U : State} (hk : mx_nk w = true) (hW : s.WarmedH U.vm) (h : va_Nw w s) : va_Nw w U := by
  cases w <;> first | exact va_Nw.warmM hW h | exact va_Nw.warmF hW h | exact va_Nw.warmD hW h | exact va_Nw.warmC hW h | cases hk
theorem mx_Z.warm {LK : mx_L} {ad : Nat → Nat} {A : Nat → Prop} {s U : State} {H : Heap} (hW : s.WarmedH U.vm) (h : mx_Z LK ad A s H) : mx_Z LK ad A U H := by
  obtain ⟨h1, h2, h3, h4, h5, h6, h7⟩ := h
  refine ⟨fun w hw => mx_nk_warm (List.mem_filter.mp hw).2 hW (h1 w hw), fun q hq => ?_, fun q hq => ?_, vx_Zq.moved hW.alike h4, vx_Zq.moved hW.alike h5, fun i nm hi => va_Z.moved hW.alike (h6 i nm hi), fun i q hi => ?_⟩
  · obtain ⟨a, ha⟩ := h2 q hq
    exact ⟨a, vk_R.warm hW ha⟩
  · obtain ⟨c, t, q1, q2, q3⟩ := h3 q hq
    exact ⟨c, t, by rw [hW.alike.findClass]; exact q1, by rw [hW.alike.findClass]; exact q2, by rw [hW.alike.assignable]; exact q3⟩
  · obtain ⟨q2, q3, q4⟩ := h7 i q hi
    exact ⟨mx_X.moved hW.alike q2, q3, q4⟩
theorem mx_Z.kept {LK : mx_L} {ad : Nat → Nat} {A : Nat → Prop} {U : State} {H H1 : Heap} (h : mx_Z LK ad A U H) (hs : H.size ≤ H1.size) (hq : ∀ a : Nat, a < H.size → ¬ A a → H1[a]? = H[a]?) : mx_Z LK ad A U H1 := by
  obtain ⟨h1, h2, h3, h4, h5, h6, h7⟩ := h
  refine ⟨h1, h2, h3, vx_Zq.kept h4 hq, vx_Zq.kept h5 hq, fun i nm hi => va_Z.kept (h6 i nm hi) hq, fun i q hi => ?_⟩
  obtain ⟨q2, q3, q4⟩ := h7 i q hi
  exact ⟨mx_X.kept q2 (hq _ q3 q4), Nat.lt_of_lt_of_le q3 hs, q4⟩
theorem mx_Z.narrow {LK : mx_L} {ad : Nat → Nat} {A B : Nat → Prop} {U : State} {H : Heap} (h : mx_Z LK ad A U H) (hAB : ∀ q, B q → A q) : mx_Z LK ad B U H := by
  obtain ⟨h1, h2, h3, h4, h5, h6, h7⟩ := h
  refine ⟨h1, h2, h3, vx_Zq.narrow h4 hAB, vx_Zq.narrow h5 hAB, fun i nm hi => va_Z.narrow (h6 i nm hi) hAB, fun i q hi => ?_⟩
  obtain ⟨q2, q3, q4⟩ := h7 i q hi
  exact ⟨q2, q3, fun h => q4 (hAB _ h)⟩
end MX
