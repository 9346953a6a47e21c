/-! Rules for the rarer instructions: a throw, statics, arrays of arrays, switches, constants, System.arraycopy; and short forms. -/
section MM
variable {l : Launch} {LK : mx_L} {Y Y' : mx_Y} {d n n' : Nat} {Q Q' : mx_R → mx_M → Prop} {fl : mx_F} {tab : mx_B} {pc : Nat} {ls st : List Value} {M : mx_M}
def mx_row (M : mx_M) (k : Nat) (g : Nat → Int32) : mx_M := fun a => if a = k then g else M a
theorem mx_lay_row {T : mx_T} {ad : Nat → Nat} {k : Nat} {g : Nat → Int32} {K : mx_K} (h : LK.1[k]? = some K) : (mx_lay T ad LK M).set k (ad k, mx_cell T ad K g) = mx_lay T ad LK (mx_row M k g) := by
  apply List.ext_getElem?
  intro j
  rw [List.getElem?_set]
  have hl : k < LK.1.length := (List.getElem?_eq_some_iff.mp h).1
  by_cases hj : k = j
  · subst hj
    rw [if_pos rfl, mx_lay_get h]
    simp [mx_lay, hl, mx_row]
  · rw [if_neg hj]
    simp only [mx_lay, List.getElem?_mapIdx]
    rw [show mx_row M k g j = M j from if_neg (Ne.symm hj)]
def mx_nms : List String := ["java/lang/RuntimeException", "java/lang/Exception"]
/-- the words of a throw -/
def mx_tw (own : String) (ic : Nat) (cls : String) : Bool := (vx_atS own ic cls mx_nms).all (fun w => (decide (w ∈ mx_WS) || decide (w ∈ mx_NW)) && vx_ot w) && Bundle.fit cls
def mx_tl (own : String) (ik is : Nat) (cls text : String) : Bool := decide (Cond.classLink own ik cls ∈ mx_WS) && decide (Cond.initialized cls ∈ mx_WS) && decide ((own, is, text) ∈ mx_SR)
theorem mx_nk_on {w : Cond} (h : mx_nk w = true) : w.onTables = true := by
  cases w <;> first | rfl | cases h
theorem mx_thr (hok : mx_ok Y fl tab) (k : Nat) {P : Prop} {pc' ik is ic : Nat} {cls text : String} {ls' : List Value} {M' : mx_M} (hh : mx_hh Y = []) (h : mx_run fl LK tab k pc ls st M = some (P, pc', ls', [], M')) (hP : P)
    (d0 : tab.lookup pc' = some (.new ik, 3)) (d3 : tab.lookup (pc' + 3) = some (.dup, 1)) (d4 : tab.lookup (pc' + 4) = some (.ldc is, 2)) (d6 : tab.lookup (pc' + 6) = some (.invokespecial ic, 3)) (d9 : tab.lookup (pc' + 9) = some (.athrow, 1))
    (ht : mx_tw (mx_ow Y) ic cls = true) (ht2 : mx_tl (mx_ow Y) ik is cls text = true) (hq : Q (.inr cls) M') : mx_E l LK Y d (n + 1) Q pc ls st M := by
  refine mx_go hok k h hP ?_
  have hd0 := hok.1 _ (mx_lk _ _ _ d0)
  have hd3 := hok.1 _ (mx_lk _ _ _ d3)
  have hd4 := hok.1 _ (mx_lk _ _ _ d4)
  have hd6 := hok.1 _ (mx_lk _ _ _ d6)
  have hd9 := hok.1 _ (mx_lk _ _ _ d9)
  dsimp only at hd0 hd3 hd4 hd6 hd9
  simp only [mx_tw, Bool.and_eq_true, List.all_eq_true, Bool.or_eq_true, decide_eq_true_eq] at ht
  simp only [mx_tl, Bool.and_eq_true, decide_eq_true_eq] at ht2
  obtain ⟨ht, hfit⟩ := ht
  obtain ⟨⟨t1, t2⟩, t3⟩ := ht2
  intro p e R s m args below meth c D T ad A mc ms hC H locs cells slots la h1 h2 hls hPw hS
  obtain ⟨⟨hx, hb, hml, hown, hts⟩, ⟨hrt, hlk, htb⟩, -, hK, ⟨z1, z2, z3, z4, z5, z6, z7⟩, ⟨hmc, hms, hfr, hlo⟩, hl⟩ := hC
  obtain ⟨sa, hsa⟩ := z2 _ t3
  have e1 : mx_fr d = d + 10 := rfl
  have e2 : mx_lo d = 60 * d + 300 := rfl
  have e3 : mx_nms.length = 2 := rfl
  refine vx_throwS (own := mx_ow Y) (cls := cls) (text := text) (names := mx_nms) (ik := ik) (is := is) (ic := ic) (sa := sa) (A := A) (rest := []) hx hb hl hown hfit (by decide +kernel) (hts _ (hok.2.2 _ t1)) (hts _ (hok.2.2 _ t2)) hsa ?_ ?_ z4 z5 hS (hls.2.1.trans hml.symm) hd0 hd3 hd4 hd6 hd9 ?_ (by omega) ?_ (by omega) (by omega) hlk ?_ hS.2.2 (by omega) (by omega)
  · intro w hw
    rcases (ht w hw).1 with h9 | h9
    · exact hts _ (hok.2.2 _ h9)
    · exact va_Nw.use (mx_nk_on (List.mem_filter.mp h9).2) (z1 w h9)
  · intro w hw
    rcases List.mem_cons.mp hw with rfl | hw
    · rfl
    · rcases List.mem_cons.mp hw with rfl | hw
      · rfl
      · exact (ht w hw).2
  · rw [htb, hh]
    intro x hx
    cases hx
  · show 0 + (13 * (mx_nms.length + 1) + 43) ≤ R.locals
    omega
  · intro t hal hsz heq
    exact ⟨⟨M', hq, hPw.kept (fun k q hk => heq _ (hPw k q hk).lt)⟩, Nat.le_trans hS.1 hsz, fun q h1 h2 => (heq q (Nat.lt_of_lt_of_le h1 hS.1)).trans (hS.2.1 q h1 h2)⟩
/-- a static array of the host -/
theorem mx_gst (hok : mx_ok Y fl tab) (k : Nat) {P : Prop} {pc' idx i : Nat} {nm : String} {ls' st' : List Value} {M' : mx_M} (h : mx_run fl LK tab k pc ls st M = some (P, pc', ls', st', M')) (hP : P) (hd : tab.lookup pc' = some (.getstatic idx, 3))
    (hw : Cond.fieldLinkNest (mx_ow Y) idx "PegBoards" nm "[I" "PegBoards" ∈ mx_NW) (hi : mx_SA[i]? = some nm) (kk : mx_E l LK Y d n Q (pc' + 3) ls' (.ref (1000 + i) :: st') M') : mx_E l LK Y d n Q pc ls st M := by
  refine mx_go hok k h hP ?_
  have hd := hok.1 _ (mx_lk _ _ _ hd)
  dsimp only at hd
  intro p e R s m args below meth c D T ad A mc ms hC H locs cells slots la h1 h2 hls hPw hS
  have hCC := hC
  obtain ⟨⟨hx, hb, hml, hown, hts⟩, -, -, hK, ⟨z1, z2, z3, z4, z5, z6, z7⟩, -⟩ := hCC
  exact va_getsN hx hb (z6 i nm hi) hS hown (va_Nw.use rfl (z1 _ hw)) (fun x h => h) hd (kk p e R s m args below meth c D T ad A mc ms hC H locs cells slots la h1 h2 hls hPw hS)
/-- a row of an array of arrays -/
theorem mx_aal (hok : mx_ok Y fl tab) (k : Nat) {P : Prop} {pc' a b : Nat} {i : Int32} {rs : List Nat} {ls' st' : List Value} {M' : mx_M} (h : mx_run fl LK tab k pc ls st M = some (P, pc', ls', .int i :: .ref a :: st', M')) (hP : P) (hd : tab.lookup pc' = some (.aaload, 1))
    (ha : LK.1[a]? = some (.inr (.inr (.inl rs)))) (hi : vp_in i rs.length) (hb0 : rs[i.toNatClampNeg]? = some b) (kk : mx_E l LK Y d n Q (pc' + 1) ls' (.ref b :: st') M') : mx_E l LK Y d n Q pc ls st M := by
  refine mx_go hok k h hP ?_
  have hd := hok.1 _ (mx_lk _ _ _ hd)
  dsimp only at hd
  intro p e R s m args below meth c D T ad A mc ms hC H locs cells slots la h1 h2 hls hPw hS
  have hCC := hC
  obtain ⟨⟨hx, hb, hml, hown, hts⟩, -, -, hK, -⟩ := hCC
  have hlt : i.toNatClampNeg < rs.length := Nat.not_le.mp fun q => hi (Or.inr q)
  have k9 := kk p e R s m args below meth c D T ad A mc ms hC H locs cells slots la h1 h2 hls hPw hS
  have hcell := hPw a _ (mx_lay_get ha)
  have e9 : va_rf ((rs[i.toNatClampNeg]?).map ad) = Value.ref (ad b) := by rw [hb0]; rfl
  exact W.aald (v := Value.ref (ad b)) (ty := .array .int) hx hb hcell ((hK.2 1 _ rfl).1 rs.length (fun j => va_rf ((rs[j]?).map ad))) rfl (fun q => by cases q) (by show ¬ (i < 0 ∨ (arrV _ _ _).slots.size ≤ _); rw [arrV_size]; exact hi) (by show (arrV _ _ _).slots[_]? = _; rw [arrV_read _ _ hlt]; exact congrArg some e9) rfl rfl hd k9
/-- a switch over neighbouring numbers -/
theorem mx_ts (hok : mx_ok Y fl tab) (k : Nat) {P : Prop} {pc' len : Nat} {x : Int32} {df lo hi : Int} {offs : Array Int} {ls' st' : List Value} {M' : mx_M} (h : mx_run fl LK tab k pc ls st M = some (P, pc', ls', .int x :: st', M')) (hP : P) (hd : tab.lookup pc' = some (.tableswitch df lo hi offs, len))
    (kin : ¬ x.toInt < lo → ¬ hi < x.toInt → ∃ off tgt, offs[(x.toInt - lo).toNat]? = some off ∧ (pc' : Int) + off = ((tgt : Nat) : Int) ∧ mx_E l LK Y d n Q tgt ls' st' M') (kout : x.toInt < lo ∨ hi < x.toInt → ∃ tgt : Nat, (pc' : Int) + df = (tgt : Int) ∧ mx_E l LK Y d n Q tgt ls' st' M') : mx_E l LK Y d n Q pc ls st M := by
  refine mx_go hok k h hP ?_
  have hd := hok.1 _ (mx_lk _ _ _ hd)
  dsimp only at hd
  intro p e R s m args below meth c D T ad A mc ms hC H locs cells slots la h1 h2 hls hPw hS
  have hCC := hC
  obtain ⟨⟨hx, hb, hml, hown, hts⟩, -⟩ := hCC
  by_cases q1 : x.toInt < lo
  · obtain ⟨tgt, q3, q4⟩ := kout (Or.inl q1)
    exact lv_tableOut hx hb hd (Or.inl q1) q3 (q4 p e R s m args below meth c D T ad A mc ms hC H locs cells slots la h1 h2 hls hPw hS)
  · by_cases q2 : hi < x.toInt
    · obtain ⟨tgt, q3, q4⟩ := kout (Or.inr q2)
      exact lv_tableOut hx hb hd (Or.inr q2) q3 (q4 p e R s m args below meth c D T ad A mc ms hC H locs cells slots la h1 h2 hls hPw hS)
    · obtain ⟨off, tgt, q3, q4, q5⟩ := kin q1 q2
      exact lv_tableIn hx hb hd q1 q2 q3 q4 (q5 p e R s m args below meth c D T ad A mc ms hC H locs cells slots la h1 h2 hls hPw hS)
/-- a constant of the pool -/
theorem mx_ldw (hok : mx_ok Y fl tab) (k : Nat) {P : Prop} {pc' idx : Nat} {v : Int32} {ls' st' : List Value} {M' : mx_M} (h : mx_run fl LK tab k pc ls st M = some (P, pc', ls', st', M')) (hP : P) (hd : tab.lookup pc' = some (.ldc_w idx, 3))
    (hw : Cond.constant (mx_ow Y) idx v ∈ mx_WS) (kk : mx_E l LK Y d n Q (pc' + 3) ls' (.int v :: st') M') : mx_E l LK Y d n Q pc ls st M := by
  refine mx_go hok k h hP ?_
  have hd := hok.1 _ (mx_lk _ _ _ hd)
  dsimp only at hd
  intro p e R s m args below meth c D T ad A mc ms hC H locs cells slots la h1 h2 hls hPw hS
  have hCC := hC
  obtain ⟨⟨hx, hb, hml, hown, hts⟩, -⟩ := hCC
  exact lv_ldcw hx hb hown (hts _ (hok.2.2 _ hw)) hd (kk p e R s m args below meth c D T ad A mc ms hC H locs cells slots la h1 h2 hls hPw hS)
/-- System.arraycopy between two arrays of ints -/
theorem mx_cpy (hok : mx_ok Y fl tab) (k : Nat) {P : Prop} {pc' idx a0 a1 n0 n1 : Nat} {sp dp cn : Int32} {ls' rest : List Value} {M' : mx_M} (h : mx_run fl LK tab k pc ls st M = some (P, pc', ls', .int cn :: .int dp :: .ref a1 :: .int sp :: .ref a0 :: rest, M')) (hP : P) (hd : tab.lookup pc' = some (.invokestatic idx, 3))
    (hw : Cond.methodLink (mx_ow Y) idx arraycopyName ∈ mx_WS ∧ Cond.native arraycopyName ∈ mx_WS ∧ Cond.static arraycopyName ∈ mx_WS ∧ Cond.initialized "java/lang/System" ∈ mx_WS) (ha0 : LK.1[a0]? = some (.inl n0)) (ha1 : LK.1[a1]? = some (.inl n1)) (hr : Nat.ble (mx_w rest) 8 = true)
    (q1 : ¬ sp < 0) (q2 : ¬ dp < 0) (q3 : ¬ cn < 0) (q4 : sp.toNatClampNeg + cn.toNatClampNeg ≤ n0) (q5 : dp.toNatClampNeg + cn.toNatClampNeg ≤ n1)
    (kk : mx_E l LK Y d n Q (pc' + 3) ls' rest (mx_row M' a1 (va_cpy (M' a0) (M' a1) sp.toNatClampNeg dp.toNatClampNeg cn.toNatClampNeg))) : mx_E l LK Y d n Q pc ls st M := by
  refine mx_go hok k h hP ?_
  have hd := hok.1 _ (mx_lk _ _ _ hd)
  dsimp only at hd
  intro p e R s m args below meth c D T ad A mc ms hC H locs cells slots la h1 h2 hls hPw hS
  have hCC := hC
  obtain ⟨⟨hx, hb, hml, hown, hts⟩, -, ⟨had, hAd, -⟩, hK, -, ⟨-, -, hfr, hlo⟩, -⟩ := hCC
  have e1 : mx_fr d = d + 10 := rfl
  have e2 : mx_lo d = 60 * d + 300 := rfl
  have e3 : nativeFrameWords "java/lang/System" "arraycopy" 5 + 11 ≤ 200 := by decide +kernel
  refine va_copyi hx hb (hml.trans hls.2.1.symm) hown (hts _ (hok.2.2 _ hw.1)) (hts _ (hok.2.2 _ hw.2.1)) (hts _ (hok.2.2 _ hw.2.2.1)) (hts _ (hok.2.2 _ hw.2.2.2)) hK hPw (mx_D had hAd M') hS a0 a1 0 0 (mx_lay_get ha0) (mx_lay_get ha1) rfl rfl rfl q1 q2 q3 q4 q5 (fun i _ => rfl) (by omega) ?_ hd (fun H1 locs1 b1 b2 b3 => ?_)
  · rw [mx_w_v]
    have := Nat.le_of_ble_eq_true hr
    omega
  · exact kk p e R s m args below meth c D T ad A mc ms hC H1 locs1 cells slots la h1 h2 hls (by rw [← mx_lay_row ha1]; exact b1) b3
/-! short forms -/
def mx_rI (v : Int32) (M' : mx_M) : mx_R → mx_M → Prop := fun r M2 => r = .inl (some (.int v)) ∧ M2 = M'
def mx_rV (M' : mx_M) : mx_R → mx_M → Prop := fun r M2 => r = .inl none ∧ M2 = M'
def mx_yb (Y : mx_Y) (n : Nat) : Bool := plainFor (mx_nm Y) && decide (mx_ow Y = (mx_nm Y).cls) && decide (mx_hh Y = []) && decide (n ≤ mx_ml Y)
theorem mx_bd {a : List Value} {n0 : Nat} (hl : l.stackTraces = false) (hy : mx_yb Y n0 = true) (hw : mx_ws Y = Cond.code (mx_nm Y) (mx_bs Y) (mx_ml Y) (mx_rt Y) :: mx_WS) (hn : a.length = n0) (ha : a.all mx_one = true) (h : mx_E l LK Y d n Q 0 (a ++ List.replicate (mx_ml Y - n0) .null) [] M) : mx_Ct l LK Y d n a M Q := by
  simp only [mx_yb, Bool.and_eq_true, decide_eq_true_eq] at hy
  obtain ⟨⟨⟨h1, h2⟩, h3⟩, h4⟩ := hy
  subst hn
  refine mx_body hl ⟨h1, h2, h3, h4⟩ hw (fun v hv => ?_) h
  have := List.all_eq_true.mp ha v hv
  cases v <;> first | exact Or.inl ⟨_, rfl⟩ | exact Or.inr ⟨_, rfl⟩ | cases this
theorem mx_cVi (hok : mx_ok Y fl tab) (k : Nat) {P : Prop} {pc' b ci idx n0 : Nat} {ls' As rest : List Value} {v : Int32} {M' M3 : mx_M} {fs : List (Option Nat)} {T0 : u_T} {N : Nat} (hh : mx_hh Y = []) (hM : mx_Ct l LK Y' d 0 (.ref b :: As) M' (mx_rI v M3))
    (h : mx_run fl LK tab k pc ls st M = some (P, pc', ls', As.reverse ++ .ref b :: rest, M')) (hP : P) (hd : tab.lookup pc' = some (.invokevirtual idx, 3)) (hb : LK.1[b]? = some (.inr (.inl (ci, fs)))) (hcl : vwCl[ci]? = some ((mx_nm Y').cls, T0, N))
    (hc : mx_cvb (mx_ow Y) idx Y' = true) (hc2 : mx_cdb Y' n0 = true) (hw : mx_ws Y' = Cond.code (mx_nm Y') (mx_bs Y') (mx_ml Y') (mx_rt Y') :: mx_WS) (hn : As.length = n0) (hr : Nat.ble (mx_w rest) 8 = true)
    (kr : mx_E l LK Y (d + 1) n Q (pc' + 3) ls' (.int v :: rest) M3) : mx_E l LK Y (d + 1) n Q pc ls st M :=
  mx_cV hok k hh hM h hP hd hb hcl hc hc2 hw hn hr (fun v2 M2 q => by obtain ⟨q1, rfl⟩ := q; cases q1; exact kr) (fun E M2 q => by obtain ⟨q1, -⟩ := q; cases q1)
theorem mx_cVv (hok : mx_ok Y fl tab) (k : Nat) {P : Prop} {pc' b ci idx n0 : Nat} {ls' As rest : List Value} {M' M3 : mx_M} {fs : List (Option Nat)} {T0 : u_T} {N : Nat} (hh : mx_hh Y = []) (hM : mx_Ct l LK Y' d 0 (.ref b :: As) M' (mx_rV M3))
    (h : mx_run fl LK tab k pc ls st M = some (P, pc', ls', As.reverse ++ .ref b :: rest, M')) (hP : P) (hd : tab.lookup pc' = some (.invokevirtual idx, 3)) (hb : LK.1[b]? = some (.inr (.inl (ci, fs)))) (hcl : vwCl[ci]? = some ((mx_nm Y').cls, T0, N))
    (hc : mx_cvb (mx_ow Y) idx Y' = true) (hc2 : mx_cdb Y' n0 = true) (hw : mx_ws Y' = Cond.code (mx_nm Y') (mx_bs Y') (mx_ml Y') (mx_rt Y') :: mx_WS) (hn : As.length = n0) (hr : Nat.ble (mx_w rest) 8 = true)
    (kr : mx_E l LK Y (d + 1) n Q (pc' + 3) ls' rest M3) : mx_E l LK Y (d + 1) n Q pc ls st M :=
  mx_cV hok k hh hM h hP hd hb hcl hc hc2 hw hn hr (fun v2 M2 q => by obtain ⟨q1, rfl⟩ := q; cases q1; exact kr) (fun E M2 q => by obtain ⟨q1, -⟩ := q; cases q1)
theorem mx_cSi (hok : mx_ok Y fl tab) (k : Nat) {P : Prop} {pc' idx n0 : Nat} {ls' As rest : List Value} {v : Int32} {M' M3 : mx_M} (hh : mx_hh Y = []) (hM : mx_Ct l LK Y' d 0 As M' (mx_rI v M3))
    (h : mx_run fl LK tab k pc ls st M = some (P, pc', ls', As.reverse ++ rest, M')) (hP : P) (hd : tab.lookup pc' = some (.invokestatic idx, 3))
    (hc : mx_csb (mx_ow Y) idx Y' = true) (hc2 : mx_cdb Y' n0 = true) (hw : mx_ws Y' = Cond.code (mx_nm Y') (mx_bs Y') (mx_ml Y') (mx_rt Y') :: mx_WS) (hn : As.length = n0) (hr : Nat.ble (mx_w rest) 8 = true)
    (kr : mx_E l LK Y (d + 1) n Q (pc' + 3) ls' (.int v :: rest) M3) : mx_E l LK Y (d + 1) n Q pc ls st M :=
  mx_cS hok k hh hM h hP hd hc hc2 hw hn hr (fun v2 M2 q => by obtain ⟨q1, rfl⟩ := q; cases q1; exact kr) (fun E M2 q => by obtain ⟨q1, -⟩ := q; cases q1)
theorem mx_cSv (hok : mx_ok Y fl tab) (k : Nat) {P : Prop} {pc' idx n0 : Nat} {ls' As rest : List Value} {M' M3 : mx_M} (hh : mx_hh Y = []) (hM : mx_Ct l LK Y' d 0 As M' (mx_rV M3))
    (h : mx_run fl LK tab k pc ls st M = some (P, pc', ls', As.reverse ++ rest, M')) (hP : P) (hd : tab.lookup pc' = some (.invokestatic idx, 3))
    (hc : mx_csb (mx_ow Y) idx Y' = true) (hc2 : mx_cdb Y' n0 = true) (hw : mx_ws Y' = Cond.code (mx_nm Y') (mx_bs Y') (mx_ml Y') (mx_rt Y') :: mx_WS) (hn : As.length = n0) (hr : Nat.ble (mx_w rest) 8 = true)
    (kr : mx_E l LK Y (d + 1) n Q (pc' + 3) ls' rest M3) : mx_E l LK Y (d + 1) n Q pc ls st M :=
  mx_cS hok k hh hM h hP hd hc hc2 hw hn hr (fun v2 M2 q => by obtain ⟨q1, rfl⟩ := q; cases q1; exact kr) (fun E M2 q => by obtain ⟨q1, -⟩ := q; cases q1)
theorem mx_cNi (hok : mx_ok Y fl tab) (k : Nat) {P : Prop} {pc' idx n0 : Nat} {ls' As rest : List Value} {v : Int32} {M' M3 : mx_M} (hh : mx_hh Y = []) (hM : mx_Ct l LK Y' d 0 As M' (mx_rI v M3))
    (h : mx_run fl LK tab k pc ls st M = some (P, pc', ls', As.reverse ++ rest, M')) (hP : P) (hd : tab.lookup pc' = some (.invokestatic idx, 3))
    (hc : mx_cnb (mx_ow Y) idx Y' = true) (hc2 : mx_cdb Y' n0 = true) (hw : mx_ws Y' = Cond.code (mx_nm Y') (mx_bs Y') (mx_ml Y') (mx_rt Y') :: mx_WS) (hn : As.length = n0) (hr : Nat.ble (mx_w rest) 8 = true)
    (kr : mx_E l LK Y (d + 1) n Q (pc' + 3) ls' (.int v :: rest) M3) : mx_E l LK Y (d + 1) n Q pc ls st M :=
  mx_cN hok k hh hM (fun E M2 q => by obtain ⟨q1, -⟩ := q; cases q1) h hP hd hc hc2 hw hn hr (fun v2 M2 q => by obtain ⟨q1, rfl⟩ := q; cases q1; exact kr)
end MM
