/-! The law's start: what the tables and the premises give. -/
section SQ
variable {args : Array Value} {s : State} {A : Nat → Prop} {b L : Nat} {xs : Nat → Int32}
theorem st_eq {t : Term} {z : Int32} (h : (Cond.eq t (.int z)).before args s = true) : t.eval args s none [] s = some (.int z) := by
  cases hv : t.eval args s none [] s with
  | none => simp [Cond.before, Cond.holds, Cond.value, hv] at h
  | some w =>
    have hz : (Term.int z).eval args s none [] s = some (.int z) := rfl
    simp only [Cond.before, Cond.holds, Cond.value, hv, hz] at h
    cases w <;> simp_all
theorem st_arr {ty : FieldType} (h : (Cond.arrayClass ty).before args s = true) : ∃ cA : ClassId, ArrOfT s cA ty ∧ s.vm.findClass ("[" ++ ty.toString) = some cA := by
  obtain ⟨cA, kA, comp, h1, h2, h3⟩ := Cond.arrayClass_spec h
  exact ⟨cA, fun n z => ⟨fun k h => (by cases h), kA, h2, comp, h3⟩, h1⟩
theorem st_arr2 (h : cn_AO s) : ∃ cA : ClassId, ArrOfT s cA (.array .int) ∧ s.vm.findClass ("[" ++ (FieldType.array .int).toString) = some cA := by
  obtain ⟨comp, cA, kA, h1, h2, h3, h4⟩ := Cond.arrayOver_specA h
  exact ⟨cA, fun n z => ⟨fun k h => (by cases h), kA, h2, comp, h3⟩, h4⟩
theorem st_K (hts : ∀ w ∈ mx_WS, w.before args s = true) (hO : cn_AO s) : ∃ (D : va_G) (T : mx_T), va_K D vwCl (mx_tys T) s := by
  obtain ⟨c0, i0, k0⟩ := u_known hts wu_Bo (hts _ wx_Bo)
  obtain ⟨c1, i1, k1⟩ := u_known hts wu_Fo (hts _ wx_Fo)
  obtain ⟨c2, i2, k2⟩ := u_known hts wu_Ju (hts _ wx_Ju)
  obtain ⟨c3, i3, k3⟩ := u_known hts wu_Re (hts _ wx_Re)
  obtain ⟨c4, i4, k4⟩ := u_known hts wu_Sy (hts _ wx_Sy)
  obtain ⟨c5, i5, k5⟩ := u_known hts wu_We (hts _ wx_We)
  obtain ⟨c6, i6, k6⟩ := u_known hts wu_Pe (hts _ wx_Pe)
  obtain ⟨c7, i7, k7⟩ := u_known hts wu_Mo (hts _ wx_Mo)
  obtain ⟨t0, a0, b0⟩ := st_arr (hts _ wa_int)
  obtain ⟨t1, a1, b1⟩ := st_arr2 hO
  obtain ⟨t2, a2, b2⟩ := st_arr (hts _ wa_long)
  obtain ⟨t3, a3, b3⟩ := st_arr (hts _ wa_bool)
  refine ⟨(fun c => match c with | 0 => c0 | 1 => c1 | 2 => c2 | 3 => c3 | 4 => c4 | 5 => c5 | 6 => c6 | _ => c7, fun c => match c with | 0 => i0 | 1 => i1 | 2 => i2 | 3 => i3 | 4 => i4 | 5 => i5 | 6 => i6 | _ => i7), (t0, t1, t2, t3), ?_, ?_⟩
  · intro c q hq
    match c, hq with
    | 0, hq => cases hq; exact k0
    | 1, hq => cases hq; exact k1
    | 2, hq => cases hq; exact k2
    | 3, hq => cases hq; exact k3
    | 4, hq => cases hq; exact k4
    | 5, hq => cases hq; exact k5
    | 6, hq => cases hq; exact k6
    | 7, hq => cases hq; exact k7
    | c + 8, hq => cases hq
  · intro k q hq
    match k, hq with
    | 0, hq => cases hq; exact ⟨a0, b0⟩
    | 1, hq => cases hq; exact ⟨a1, b1⟩
    | 2, hq => cases hq; exact ⟨a2, b2⟩
    | 3, hq => cases hq; exact ⟨a3, b3⟩
    | k + 4, hq => cases hq
/-- one of the class's arrays of steps -/
theorem st_sa {nm : String} {N : Nat} {f : Nat → Int32} (hN : N < 2 ^ 31) (w1 : (Cond.laysStatic "PegBoards" nm "[I").before args s = true) (w2 : (Cond.initialized "PegBoards").before args s = true) (h1 : (Cond.arrayOf (.static "PegBoards" nm "[I") .int).before args s = true) (h2 : (Cond.eq (.length (.static "PegBoards" nm "[I")) (.int (Int32.ofNat N))).before args s = true) (h3 : ∀ j, j < N → (Cond.eq (.elem (.static "PegBoards" nm "[I") (.int (Int32.ofNat j))) (.int (f j))).before args s = true) (hA : ∀ a : Nat, a < s.heap.size → ¬ A a) :
    ∃ t, va_Z "PegBoards" nm "[I" (.ref t) A s s.heap ∧ mx_X t N f s s.heap ∧ t < s.heap.size ∧ ¬ A t := by
  obtain ⟨t, e1, cell, g1, g2, g3, g4, g5, g6, g7⟩ := va_Tof (f := fun j => .int (f j)) hN h1 (st_eq h2) (fun j hj => st_eq (h3 j hj)) hA
  exact ⟨t, va_Zref w1 w2 e1 hA, ⟨cell, g1, g2, g3, g4, g5, g6⟩, (Array.getElem?_eq_some_iff.mp g1).1, g7⟩
theorem ws_in : ∀ w ∈ mx_WS, w ∈ lw_tbl := fun w hw => (List.mem_filter.mp hw).1
theorem sr_in : ∀ q ∈ mx_SR, Cond.stringRef q.1 q.2.1 q.2.2 ∈ lw_tbl := by decide +kernel
theorem sr_ex : ∀ q ∈ mx_SR, Cond.exactly (.string q.1 q.2.1) "java/lang/String" ∈ flatC (Jvm.Cond.and given_1 narrow_1) := by decide +kernel
theorem nc_in : ∀ q ∈ mx_NC, Cond.not (.castable q.1 q.2) ∈ flatC (Jvm.Cond.and given_1 narrow_1) := by decide +kernel
theorem ls_in : ∀ nm ∈ mx_SA, Cond.laysStatic "PegBoards" nm "[I" ∈ lw_tbl := by decide +kernel
theorem lt_in : Cond.laysStatic Bundle.tN "UNASSIGNED_STACK" Bundle.steD ∈ lw_tbl ∧ Cond.laysStatic Bundle.tN "SUPPRESSED_SENTINEL" Bundle.listD ∈ lw_tbl ∧ Cond.initialized Bundle.tN ∈ lw_tbl := by decide +kernel
theorem lr_in : Cond.isRef (.static Bundle.tN "UNASSIGNED_STACK" Bundle.steD) ∈ flatC (Jvm.Cond.and given_1 narrow_1) ∧ Cond.isRef (.static Bundle.tN "SUPPRESSED_SENTINEL" Bundle.listD) ∈ flatC (Jvm.Cond.and given_1 narrow_1) := by decide +kernel
def sa_ok (nm : String) (N : Nat) (f : Nat → Int32) : Bool := decide (Cond.arrayOf (.static "PegBoards" nm "[I") .int ∈ flatC (Jvm.Cond.and given_1 narrow_1)) && decide (Cond.eq (.length (.static "PegBoards" nm "[I")) (.int (Int32.ofNat N)) ∈ flatC (Jvm.Cond.and given_1 narrow_1)) && (List.range N).all (fun j => decide (Cond.eq (.elem (.static "PegBoards" nm "[I") (.int (Int32.ofNat j))) (.int (f j)) ∈ flatC (Jvm.Cond.and given_1 narrow_1)))
theorem sa_1 : sa_ok "SQUARE_ROW_STEPS" 4 pg_s1 = true := by decide +kernel
theorem sa_2 : sa_ok "SQUARE_COLUMN_STEPS" 4 pg_s2 = true := by decide +kernel
theorem sa_3 : sa_ok "TRIANGULAR_ROW_STEPS" 6 pg_s3 = true := by decide +kernel
theorem sa_4 : sa_ok "TRIANGULAR_COLUMN_STEPS" 6 pg_s4 = true := by decide +kernel
theorem st_sb {nm : String} {N : Nat} {f : Nat → Int32} (hN : N < 2 ^ 31) (hW : ∀ w ∈ lw_tbl, w.before args s = true) (hg : (Jvm.Cond.and given_1 narrow_1).before args s = true) (hA : ∀ a : Nat, a < s.heap.size → ¬ A a) (hm : nm ∈ mx_SA) (h : sa_ok nm N f = true) :
    ∃ t, va_Z "PegBoards" nm "[I" (.ref t) A s s.heap ∧ mx_X t N f s s.heap ∧ t < s.heap.size ∧ ¬ A t := by
  simp only [sa_ok, Bool.and_eq_true, decide_eq_true_eq, List.all_eq_true, List.mem_range] at h
  obtain ⟨⟨h1, h2⟩, h3⟩ := h
  have hs := flat_of_before _ hg
  exact st_sa hN (hW _ (ls_in nm hm)) (hW _ (ws_in _ wy_Pe)) (hs _ h1) (hs _ h2) (fun j hj => hs _ (h3 j hj)) hA
theorem st_Z (hW : ∀ w ∈ lw_tbl, w.before args s = true) (hg : (Jvm.Cond.and given_1 narrow_1).before args s = true) (hA : ∀ a : Nat, a < s.heap.size → ¬ A a) (hX : va_X b L xs s s.heap) (hb : b < s.heap.size) :
    ∃ t0 t1 t2 t3 : Nat, ∀ (ad : Nat → Nat), ad 1000 = t0 → ad 1001 = t1 → ad 1002 = t2 → ad 1003 = t3 → ad 1004 = b → mx_Z ([], []) ad A s s.heap ∧ mx_Z (pg_L (L, xs)) ad A s s.heap := by
  have hs := flat_of_before _ hg
  obtain ⟨t0, z0, x0, l0, n0⟩ := st_sb (by decide) hW hg hA (by decide) sa_1
  obtain ⟨t1, z1, x1, l1, n1⟩ := st_sb (by decide) hW hg hA (by decide) sa_2
  obtain ⟨t2, z2, x2, l2, n2⟩ := st_sb (by decide) hW hg hA (by decide) sa_3
  obtain ⟨t3, z3, x3, l3, n3⟩ := st_sb (by decide) hW hg hA (by decide) sa_4
  refine ⟨t0, t1, t2, t3, fun ad e0 e1 e2 e3 e4 => ?_⟩
  have p1 : ∀ w ∈ mx_NW, va_Nw w s := fun w hw => va_Nw.of (mx_nk_on (List.mem_filter.mp hw).2) (hW w (List.mem_filter.mp hw).1)
  have p2 : ∀ q ∈ mx_SR, ∃ a, vk_R q.1 q.2.1 q.2.2 a s := by
    intro q hq
    obtain ⟨a, -, -, -, ha, -⟩ := Cond.exactly_spec (hs _ (sr_ex q hq))
    exact ⟨a, vk_R.of (hW _ (sr_in q hq)) ha⟩
  have p3 : ∀ q ∈ mx_NC, va_Nc q.1 q.2 s := fun q hq => va_Nc.of (hs _ (nc_in q hq))
  have p4 : vx_Zq Bundle.tN "UNASSIGNED_STACK" Bundle.steD A s s.heap := vx_Zqof (hW _ lt_in.1) (hW _ lt_in.2.2) (hs _ lr_in.1) hA
  have p5 : vx_Zq Bundle.tN "SUPPRESSED_SENTINEL" Bundle.listD A s s.heap := vx_Zqof (hW _ lt_in.2.1) (hW _ lt_in.2.2) (hs _ lr_in.2) hA
  have p6 : ∀ (i : Nat) (nm : String), mx_SA[i]? = some nm → va_Z "PegBoards" nm "[I" (.ref (ad (1000 + i))) A s s.heap := by
    intro i nm hi
    match i, hi with
    | 0, hi => cases hi; rw [show ad (1000 + 0) = t0 from e0]; exact z0
    | 1, hi => cases hi; rw [show ad (1000 + 1) = t1 from e1]; exact z1
    | 2, hi => cases hi; rw [show ad (1000 + 2) = t2 from e2]; exact z2
    | 3, hi => cases hi; rw [show ad (1000 + 3) = t3 from e3]; exact z3
    | i + 4, hi => cases hi
  refine ⟨⟨p1, p2, p3, p4, p5, p6, fun i q hi => by cases hi⟩, ⟨p1, p2, p3, p4, p5, p6, fun i q hi => ?_⟩⟩
  match i, hi with
  | 0, hi => cases hi; rw [show ad (1000 + 0) = t0 from e0]; exact ⟨x0, l0, n0⟩
  | 1, hi => cases hi; rw [show ad (1000 + 1) = t1 from e1]; exact ⟨x1, l1, n1⟩
  | 2, hi => cases hi; rw [show ad (1000 + 2) = t2 from e2]; exact ⟨x2, l2, n2⟩
  | 3, hi => cases hi; rw [show ad (1000 + 3) = t3 from e3]; exact ⟨x3, l3, n3⟩
  | 4, hi =>
    cases hi
    rw [show ad (1000 + 4) = b from e4]
    obtain ⟨scr, y1, y2, y3, y4, y5⟩ := hX
    exact ⟨⟨scr, y1, y2, y3, by rw [y4]; exact Nat.le_refl _, by rw [y4] <;> rfl, y5⟩, hb, hA b hb⟩
  | i + 5, hi => cases hi
end SQ
