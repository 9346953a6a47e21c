/-! Rules: many steps at once, branches, returns, calls, a method's whole body. -/
section MR
variable {l : Launch} {LK : mx_L} {Y : mx_Y} {d n : Nat} {Q : mx_R → mx_M → Prop} {fl : mx_F} {tab : mx_B} {pc : Nat} {ls st : List Value} {M : mx_M}
/-- k steps -/
theorem mx_go (hok : mx_ok Y fl tab) : ∀ (k : Nat) {pc : Nat} {ls st : List Value} {M : mx_M} {P : Prop} {pc' : Nat} {ls' st' : List Value} {M' : mx_M}, mx_run fl LK tab k pc ls st M = some (P, pc', ls', st', M') → P → mx_E l LK Y d n Q pc' ls' st' M' → mx_E l LK Y d n Q pc ls st M := by
  intro k
  induction k with
  | zero => intro pc ls st M P pc' ls' st' M' h _ kk; cases h; exact kk
  | succ k ih =>
    intro pc ls st M P pc' ls' st' M' h hP kk
    simp only [mx_run] at h
    split at h
    next c0 pc2 ls2 st2 M2 hr =>
      split at h
      next zP z2 hz =>
        have e := Option.some.inj h
        obtain ⟨e1, rfl⟩ := Prod.mk.inj e
        refine mx_st_ok hok hr ?_ (ih hz ?_ kk)
        · intro q hq
          dsimp only at hq
          subst hq
          dsimp only at e1
          rw [← e1] at hP
          exact hP.1
        · cases c0 with
          | none => dsimp only at e1; rw [← e1] at hP; exact hP
          | some q => dsimp only at e1; rw [← e1] at hP; exact hP.2
      next => cases h
    next => cases h
/-- where a branch goes: the question, its contrary, the place if yes, the place if no, the stack behind it -/
def mx_c (tab : mx_B) (pc : Nat) (st : List Value) : Option (Prop × Prop × Nat × Nat × List Value) := match tab.lookup pc with
  | some (.if_icmp cd off, 3) => (match st with
    | .int y :: .int x :: st => if (0 : Int) ≤ (pc : Int) + off then (match cd with
      | .eq => some (x = y, ¬ x = y, ((pc : Int) + off).toNat, pc + 3, st)
      | .ne => some (¬ x = y, x = y, ((pc : Int) + off).toNat, pc + 3, st)
      | .lt => some (x < y, ¬ x < y, ((pc : Int) + off).toNat, pc + 3, st)
      | .ge => some (y ≤ x, ¬ y ≤ x, ((pc : Int) + off).toNat, pc + 3, st)
      | .gt => some (y < x, ¬ y < x, ((pc : Int) + off).toNat, pc + 3, st)
      | .le => some (x ≤ y, ¬ x ≤ y, ((pc : Int) + off).toNat, pc + 3, st)) else none
    | _ => none)
  | some (.ifCond cd off, 3) => (match st with
    | .int x :: st => if (0 : Int) ≤ (pc : Int) + off then (match cd with
      | .eq => some (x = 0, ¬ x = 0, ((pc : Int) + off).toNat, pc + 3, st)
      | .ne => some (¬ x = 0, x = 0, ((pc : Int) + off).toNat, pc + 3, st)
      | .lt => some (x < 0, ¬ x < 0, ((pc : Int) + off).toNat, pc + 3, st)
      | .ge => some (0 ≤ x, ¬ 0 ≤ x, ((pc : Int) + off).toNat, pc + 3, st)
      | .gt => some (0 < x, ¬ 0 < x, ((pc : Int) + off).toNat, pc + 3, st)
      | .le => some (x ≤ 0, ¬ x ≤ 0, ((pc : Int) + off).toNat, pc + 3, st)) else none
    | _ => none)
  | _ => none
theorem mx_br (hok : mx_ok Y fl tab) {yes no : Prop} {t f : Nat} {st' : List Value} (h : mx_c tab pc st = some (yes, no, t, f, st')) (kt : yes → mx_E l LK Y d n Q t ls st' M) (kf : no → mx_E l LK Y d n Q f ls st' M) : mx_E l LK Y d n Q pc ls st M := by
  unfold mx_c at h
  split at h
  next cd off hl =>
    have hd := hok.1 _ (mx_lk _ _ _ hl)
    dsimp only at hd
    split at h
    next y x st2 =>
      split at h
      next ho =>
        intro p e R s m args below meth c D T ad A mc ms hC H locs cells slots la h1 h2 hls hPw hS
        have hCC := hC
        obtain ⟨⟨hx, hb, -⟩, -⟩ := hCC
        have ht : (pc : Int) + off = ((((pc : Int) + off).toNat : Nat) : Int) := by omega
        cases cd <;> (dsimp only at h; cases h)
        case eq => exact lv_icmp_eq hx hb hd ht (fun q => kt q p e R s m args below meth c D T ad A mc ms hC H locs cells slots la h1 h2 hls hPw hS) (fun q => kf q p e R s m args below meth c D T ad A mc ms hC H locs cells slots la h1 h2 hls hPw hS)
        case ne => exact lv_icmp_ne hx hb hd ht (fun q => kt q p e R s m args below meth c D T ad A mc ms hC H locs cells slots la h1 h2 hls hPw hS) (fun q => kf q p e R s m args below meth c D T ad A mc ms hC H locs cells slots la h1 h2 hls hPw hS)
        case lt => exact lv_icmp_lt hx hb hd ht (fun q => kt q p e R s m args below meth c D T ad A mc ms hC H locs cells slots la h1 h2 hls hPw hS) (fun q => kf q p e R s m args below meth c D T ad A mc ms hC H locs cells slots la h1 h2 hls hPw hS)
        case ge => exact lv_icmp_ge hx hb hd ht (fun q => kt q p e R s m args below meth c D T ad A mc ms hC H locs cells slots la h1 h2 hls hPw hS) (fun q => kf q p e R s m args below meth c D T ad A mc ms hC H locs cells slots la h1 h2 hls hPw hS)
        case gt => exact lv_icmp_gt hx hb hd ht (fun q => kt q p e R s m args below meth c D T ad A mc ms hC H locs cells slots la h1 h2 hls hPw hS) (fun q => kf q p e R s m args below meth c D T ad A mc ms hC H locs cells slots la h1 h2 hls hPw hS)
        case le => exact lv_icmp_le hx hb hd ht (fun q => kt q p e R s m args below meth c D T ad A mc ms hC H locs cells slots la h1 h2 hls hPw hS) (fun q => kf q p e R s m args below meth c D T ad A mc ms hC H locs cells slots la h1 h2 hls hPw hS)
      next => cases h
    next => cases h
  next cd off hl =>
    have hd := hok.1 _ (mx_lk _ _ _ hl)
    dsimp only at hd
    split at h
    next x st2 =>
      split at h
      next ho =>
        intro p e R s m args below meth c D T ad A mc ms hC H locs cells slots la h1 h2 hls hPw hS
        have hCC := hC
        obtain ⟨⟨hx, hb, -⟩, -⟩ := hCC
        have ht : (pc : Int) + off = ((((pc : Int) + off).toNat : Nat) : Int) := by omega
        cases cd <;> (dsimp only at h; cases h)
        case eq => exact lv_if_eq hx hb hd ht (fun q => kt q p e R s m args below meth c D T ad A mc ms hC H locs cells slots la h1 h2 hls hPw hS) (fun q => kf q p e R s m args below meth c D T ad A mc ms hC H locs cells slots la h1 h2 hls hPw hS)
        case ne => exact lv_if_ne hx hb hd ht (fun q => kt q p e R s m args below meth c D T ad A mc ms hC H locs cells slots la h1 h2 hls hPw hS) (fun q => kf q p e R s m args below meth c D T ad A mc ms hC H locs cells slots la h1 h2 hls hPw hS)
        case lt => exact lv_if_lt hx hb hd ht (fun q => kt q p e R s m args below meth c D T ad A mc ms hC H locs cells slots la h1 h2 hls hPw hS) (fun q => kf q p e R s m args below meth c D T ad A mc ms hC H locs cells slots la h1 h2 hls hPw hS)
        case ge => exact lv_if_ge hx hb hd ht (fun q => kt q p e R s m args below meth c D T ad A mc ms hC H locs cells slots la h1 h2 hls hPw hS) (fun q => kf q p e R s m args below meth c D T ad A mc ms hC H locs cells slots la h1 h2 hls hPw hS)
        case gt => exact lv_if_gt hx hb hd ht (fun q => kt q p e R s m args below meth c D T ad A mc ms hC H locs cells slots la h1 h2 hls hPw hS) (fun q => kf q p e R s m args below meth c D T ad A mc ms hC H locs cells slots la h1 h2 hls hPw hS)
        case le => exact lv_if_le hx hb hd ht (fun q => kt q p e R s m args below meth c D T ad A mc ms hC H locs cells slots la h1 h2 hls hPw hS) (fun q => kf q p e R s m args below meth c D T ad A mc ms hC H locs cells slots la h1 h2 hls hPw hS)
      next => cases h
    next => cases h
  next => cases h
/-- k steps, then a branch -/
def mx_rb (fl : mx_F) (LK : mx_L) (tab : mx_B) (k pc : Nat) (ls st : List Value) (M : mx_M) : Option (Prop × Prop × Prop × Nat × Nat × List Value × List Value × mx_M) := match mx_run fl LK tab k pc ls st M with
  | some (P, pc', ls', st', M') => (match mx_c tab pc' st' with
    | some (y, n, t, f, st2) => some (P, y, n, t, f, ls', st2, M')
    | none => none)
  | none => none
theorem mx_if (hok : mx_ok Y fl tab) (k : Nat) {P yes no : Prop} {t f : Nat} {ls' st' : List Value} {M' : mx_M} (h : mx_rb fl LK tab k pc ls st M = some (P, yes, no, t, f, ls', st', M')) (hP : P)
    (kt : yes → mx_E l LK Y d n Q t ls' st' M') (kf : no → mx_E l LK Y d n Q f ls' st' M') : mx_E l LK Y d n Q pc ls st M := by
  unfold mx_rb at h
  split at h
  next P2 pc2 ls2 st2 M2 h2 =>
    split at h
    next y2 n2 t2 f2 st3 h3 =>
      cases h
      exact mx_go hok k h2 hP (mx_br hok h3 kt kf)
    next => cases h
  next => cases h
theorem mx_ret_i (hok : mx_ok Y fl tab) (hr : mx_rt Y = some .int) (k : Nat) {P : Prop} {pc' : Nat} {ls' : List Value} {v : Int32} {M' : mx_M} (h : mx_run fl LK tab k pc ls st M = some (P, pc', ls', [.int v], M')) (hP : P) (hd : tab.lookup pc' = some (.ireturn, 1)) (hq : Q (.inl (some (.int v))) M') : mx_E l LK Y d n Q pc ls st M := by
  refine mx_go hok k h hP ?_
  have hd := hok.1 _ (mx_lk _ _ _ hd)
  dsimp only at hd
  intro p e R s m args below meth c D T ad A mc ms hC H locs cells slots la h1 h2 hls hPw hS
  obtain ⟨⟨hx, hb, -⟩, ⟨hrt, hlk, -⟩, -⟩ := hC
  refine W.widen (k := mc) (n := ms) (by omega) (by omega) (vx_ret ?_)
  exact W.iret hx hb (hrt.trans hr) (fun t ht hW => ⟨⟨some (.int v), M', rfl, hq, by rw [ht]; exact hPw⟩, hS.F ht⟩) hS.2.2 hd hlk
theorem mx_ret_z (hok : mx_ok Y fl tab) (hr : mx_rt Y = some .boolean) (k : Nat) {P : Prop} {pc' : Nat} {ls' : List Value} {v : Int32} {M' : mx_M} (h : mx_run fl LK tab k pc ls st M = some (P, pc', ls', [.int v], M')) (hP : P) (hd : tab.lookup pc' = some (.ireturn, 1)) (hv : v = 0 ∨ v = 1) (hq : Q (.inl (some (.int v))) M') : mx_E l LK Y d n Q pc ls st M := by
  refine mx_go hok k h hP ?_
  have hd := hok.1 _ (mx_lk _ _ _ hd)
  dsimp only at hd
  intro p e R s m args below meth c D T ad A mc ms hC H locs cells slots la h1 h2 hls hPw hS
  obtain ⟨⟨hx, hb, -⟩, ⟨hrt, hlk, -⟩, -⟩ := hC
  refine W.widen (k := mc) (n := ms) (by omega) (by omega) (vx_ret ?_)
  exact W.zret hx hb (hrt.trans hr) (by rcases hv with rfl | rfl <;> rfl) (fun t ht hW => ⟨⟨some (.int v), M', rfl, hq, by rw [ht]; exact hPw⟩, hS.F ht⟩) hS.2.2 hd hlk
theorem mx_ret_v (hok : mx_ok Y fl tab) (hr : mx_rt Y = none) (k : Nat) {P : Prop} {pc' : Nat} {ls' : List Value} {M' : mx_M} (h : mx_run fl LK tab k pc ls st M = some (P, pc', ls', [], M')) (hP : P) (hd : tab.lookup pc' = some (.return_, 1)) (hq : Q (.inl none) M') : mx_E l LK Y d n Q pc ls st M := by
  refine mx_go hok k h hP ?_
  have hd := hok.1 _ (mx_lk _ _ _ hd)
  dsimp only at hd
  intro p e R s m args below meth c D T ad A mc ms hC H locs cells slots la h1 h2 hls hPw hS
  obtain ⟨⟨hx, hb, -⟩, ⟨hrt, hlk, -⟩, -⟩ := hC
  refine W.widen (k := mc) (n := ms) (by omega) (by omega) (vx_ret ?_)
  exact W.vret hx hb (hrt.trans hr) (fun t ht hW => ⟨⟨none, M', rfl, hq, by rw [ht]; exact hPw⟩, hS.F ht⟩) hS.2.2 hd hlk
/-- what a contract may change -/
def mx_A (LK : mx_L) (ad : Nat → Nat) (sz : Nat) : Nat → Prop := fun q => (∃ k, k < LK.1.length ∧ q = ad k) ∨ sz ≤ q
def mx_rm (d n : Nat) : Room := { frames := mx_fr d, cells := n, slots := 6 * n, locals := mx_lo d }
def mx_Pc (LK : mx_L) (a : List Value) (M : mx_M) (D : va_G) (T : mx_T) (ad : Nat → Nat) (sz : Nat) : Array Value → State → Prop := va_Pc (a.map (mx_v ad)) (fun U => U.heap.size = sz ∧ va_P D vwCl (mx_lay T ad LK M) U.heap ∧ va_K D vwCl (mx_tys T) U ∧ mx_ad LK ad ∧ mx_Z LK ad (mx_A LK ad sz) U U.heap)
/-- a contract: with these arguments, from M: Q of the answer and of the numbers behind it; at most n cells (each of 6 places) are made -/
def mx_Ct (l : Launch) (LK : mx_L) (Y : mx_Y) (d n : Nat) (a : List Value) (M : mx_M) (Q : mx_R → mx_M → Prop) : Prop :=
  ∀ (D : va_G) (T : mx_T) (ad : Nat → Nat) (sz : Nat), vx_Met l (mx_nm Y) (mx_ws Y) (mx_rm d n) (mx_Pc LK a M D T ad sz) (mx_Qc LK D T ad (mx_A LK ad sz) Q) (mx_XC LK D T ad (mx_A LK ad sz) Q) n (6 * n) (mx_A LK ad sz)
theorem mx_blind {a : List Value} {D : va_G} {T : mx_T} {ad : Nat → Nat} {sz : Nat} : FrameBlind (mx_Pc LK a M D T ad sz) := by
  intro a2 U g mk ⟨q0, q1, q2, q3, q4, q5⟩
  exact ⟨q0, q1, q2, va_K.moved (u := U) (U := U.calling g mk a2) (Vm.Alike.refl U.vm) q3, q4, mx_Z.warm (s := U) (U := U.calling g mk a2) (State.WarmedH.refl U) q5⟩
theorem mx_ofW {y : MethodName} {ws ws' : List Cond} {rm : Room} {Pc : Array Value → State → Prop} {Qc : Array Value → State → Outcome → State → Prop} {XC : String → State → State → Prop} {mc ms : Nat} {free : Addr → Prop} {cc : ByteArray} {maxL : Nat} {ret : Option FieldType}
    (hy : plainFor y = true) (hw : ws = Cond.code y cc maxL ret :: ws')
    (body : ∀ p e s m args below meth c s₁, BodyLoose p l y (headSpec ws rm) cc maxL ret e s m args below meth c s₁ → c.maxLocals = maxL → (∀ x ∈ c.exceptionTable.toList, False) → Pc args s →
      W p l e (headSpec ws rm).room s m args below meth c s.heap [] 0 0 (vx_MQ below Qc XC args s mc ms free) (entryFrame m args maxL)) : vx_Met l y ws rm Pc Qc XC mc ms free := by
  refine MetFree.of_bodySF (code := cc) (maxLocals := maxL) (ret := ret) hy ?_ ?_
  · intro args s m h hn
    obtain ⟨meth, c, h1, h2, h3, h4, h5, h6, -, -⟩ := Cond.code_spec hn (atoms_spec (ws := ws) h _ (by rw [hw]; exact List.mem_cons_self))
    exact ⟨meth, c, h1, h2, h3, h4, h5, h6⟩
  · intro p e s m args below meth c s₁ B hml hP _
    have hh0 : s₁.heap = s.heap := by rw [B.state]; rfl
    have ht : ∀ x ∈ c.exceptionTable.toList, False := by
      obtain ⟨meth9, c9, h1, h2, -, -, -, -, h7, -⟩ := Cond.code_spec B.named (atoms_spec (ws := ws) B.pre _ (by rw [hw]; exact List.mem_cons_self))
      cases Option.some.inj (h1.symm.trans B.method)
      cases Option.some.inj (h2.symm.trans (Stand.of_body B).code)
      intro x hx
      rw [Array.isEmpty_iff.mp h7] at hx
      cases hx
    obtain ⟨t, a1, o, b1, b2, b3⟩ := body p e s m args below meth c s₁ B hml ht hP s₁ hh0 (Stand.of_body B)
    exact ⟨t, o, a1, b1, b2, b3⟩
theorem mx_body {a : List Value} {ws' : List Cond} (hl : l.stackTraces = false) (hy : plainFor (mx_nm Y) = true ∧ mx_ow Y = (mx_nm Y).cls ∧ mx_hh Y = [] ∧ a.length ≤ mx_ml Y) (hw : mx_ws Y = Cond.code (mx_nm Y) (mx_bs Y) (mx_ml Y) (mx_rt Y) :: ws') (hc : ∀ v ∈ a, (∃ x, v = .int x) ∨ ∃ k, v = .ref k)
    (h : mx_E l LK Y d n Q 0 (a ++ List.replicate (mx_ml Y - a.length) .null) [] M) : mx_Ct l LK Y d n a M Q := by
  obtain ⟨hy1, hy2, hy3, hy4⟩ := hy
  intro D T ad sz
  refine mx_ofW (cc := mx_bs Y) (maxL := mx_ml Y) (ret := mx_rt Y) hy1 hw ?_
  intro p e s m args below meth c s₁ B hml htb hv
  obtain ⟨rfl, rfl, hP, hK, had, hZ⟩ := hv
  have hts := atoms_spec (ws := mx_ws Y) B.pre
  have hown : s.vm.findClass (mx_ow Y) = some m.cls := by rw [hy2]; exact findClass_of_methodNamed B.named
  have h0 := mx_ls_0 (ad := ad) (n := mx_ml Y) a hc hy4
  rw [lg_entry_eq]
  have htb2 : c.exceptionTable.toList = tableOf (mx_hh Y) := by
    rw [hy3]
    cases hq : c.exceptionTable.toList with
    | nil => rfl
    | cons x t => exact (htb x (by rw [hq]; exact List.mem_cons_self)).elim
  exact h p e (headSpec (mx_ws Y) (mx_rm d n)).room s m _ below meth c D T ad (mx_A LK ad s.heap.size) n (6 * n)
    ⟨⟨B.exec, B.bytes, hml, hown, hts⟩, ⟨B.returns, B.notSynchronized, htb2⟩, ⟨had, fun k hk => Or.inl ⟨k, hk, rfl⟩, fun q hq => Or.inr hq⟩, hK, hZ, ⟨Nat.le_refl _, Nat.le_refl _, Nat.le_refl _, Nat.le_refl _⟩, hl⟩
    s.heap [] 0 0 _ (by omega) (by omega) h0 hP va_S.rf
end MR
