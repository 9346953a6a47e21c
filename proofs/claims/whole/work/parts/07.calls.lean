/-! Calls by contract. -/
section MC
variable {l : Launch} {LK : mx_L} {Y Y' : mx_Y} {d n n' : Nat} {Q Q' : mx_R → mx_M → Prop} {fl : mx_F} {tab : mx_B} {pc : Nat} {ls st : List Value} {M : mx_M}
variable {p : Program} {e : Env} {R : Room} {s : State} {m : MethodId} {args : Array Value} {below : List Frame} {meth : Method} {c : Code} {D : va_G} {T : mx_T} {ad : Nat → Nat} {A : Nat → Prop} {mc ms : Nat} {H : Heap} {locs : List Loc} {cells slots : Nat} {la : Array Slot}
theorem mx_A_in (hC : mx_C l LK Y d p R s m args meth c D T ad A mc ms) (hS : va_S A s.heap H locs) : ∀ q, mx_A LK ad H.size q → A q := by
  obtain ⟨-, -, ⟨-, h2, h3⟩, -⟩ := hC
  intro q hq
  rcases hq with ⟨k, hk, rfl⟩ | hq
  · exact h2 k hk
  · exact h3 q (Nat.le_trans hS.1 hq)
/-- what a callee asks, at the caller's point -/
theorem mx_pre (hC : mx_C l LK Y d p R s m args meth c D T ad A mc ms) (hS : va_S A s.heap H locs) (hP : va_P D vwCl (mx_lay T ad LK M) H) (a : List Value) : ∀ U : State, U.heap = H → s.WarmedH U.vm → mx_Pc LK a M D T ad H.size (a.map (mx_v ad)).toArray U := by
  intro U hU hW
  have hin := mx_A_in hC hS
  obtain ⟨-, -, ⟨h1, -, -⟩, hK, hZ, -⟩ := hC
  exact ⟨rfl, by rw [hU], by rw [hU]; exact hP, va_K.moved hW.alike hK, h1, by rw [hU]; exact mx_Z.warm hW (mx_Z.narrow (mx_Z.kept hZ hS.1 hS.2.1) hin)⟩
/-- behind a call -/
theorem mx_back (hh : mx_hh Y = []) (hC : mx_C l LK Y d p R s m args meth c D T ad A mc ms) (h1 : cells + (n + n') ≤ mc) (h2 : slots + 6 * (n + n') ≤ ms) (hls : mx_ls ad (mx_ml Y) ls la) (hS : va_S A s.heap H locs) {st0 rest : List Value} {a : Array Value}
    (hr : vx_Run p l e R s m args below meth c H locs cells slots n' (6 * n') (F0 m pc la st0) (rest.map (mx_v ad)) (mx_Qc LK D T ad (mx_A LK ad H.size) Q' a) (mx_XC LK D T ad (mx_A LK ad H.size) Q') (mx_A LK ad H.size))
    (kr : ∀ v M', Q' (.inl v) M' → mx_E l LK Y d n Q (pc + 3) ls (v.toList ++ rest) M') (kx : ∀ E M', Q' (.inr E) M' → Q (.inr E) M') :
    W p l e R s m args below meth c H locs cells slots (vx_MQ below (mx_Qc LK D T ad A Q) (mx_XC LK D T ad A Q) args s mc ms A) (F0 m pc la st0) := by
  have hin := mx_A_in hC hS
  intro Tt hT X
  rcases hr Tt hT X with ⟨v0, st₀, t, T', L, h0, X', hL, e1, e2, ⟨⟨v, M', hv, hq, hP'⟩, hF⟩, st⟩ | ⟨q, st₀, t, T', L, E, ce, h0, X', hL, e1, e2, ⟨⟨M', hq, hP'⟩, hF⟩, hce, hcv, hcl, st⟩
  · obtain ⟨-, -, k3⟩ := vx_keep h0 e1 hS (fun q _ hq => hin q hq) hin hL hF
    have hv0 : v0 = v.map (mx_v ad) := by cases hv; rfl
    subst hv0
    obtain ⟨t2, a1, b1⟩ := kr v M' hq p e R s m args below meth c D T ad A mc ms hC T'.heap (locs ++ L) (cells + n') (slots + 6 * n') la (by omega) (by omega) hls (by rw [e1]; exact hP') k3 T' rfl X'
    refine ⟨t2, st t2 ?_, b1⟩
    have hst : (v.map (mx_v ad)).toList ++ rest.map (mx_v ad) = (v.toList ++ rest).map (mx_v ad) := by cases v <;> rfl
    show Steps p.tables e below (T'.setTop { method := m, pc := pc + 3, locals := la, stack := (v.map (mx_v ad)).toList ++ rest.map (mx_v ad), locked := none }) t2
    rw [hst]
    exact a1
  · obtain ⟨-, -, k3⟩ := vx_keep h0 e1 hS (fun q _ hq => hin q hq) hin hL hF
    obtain ⟨-, ⟨-, hlk, htb⟩, -⟩ := hC
    have hout : ∀ x ∈ c.exceptionTable.toList, covers x pc = false := by
      rw [htb, hh]
      intro x hx
      cases hx
    obtain ⟨t2, a1, b1⟩ := vx_out (Qc := mx_Qc LK D T ad A Q) (XC := mx_XC LK D T ad A Q) (mc := mc) (ms := ms) (free := A) (below := below) (args := args) (ls := la) (rest := rest.map (mx_v ad)) hout hlk (by rw [e1]; exact hce) hcv hcl
      (fun t' ht' _ => ⟨⟨M', kx E M' hq, by rw [ht', e1]; exact hP'⟩, k3.F ht'⟩) k3.2.2 (by omega) (by omega) T' rfl X'
    exact ⟨t2, st.trans a1, b1⟩
theorem mx_gi {big l : List Cond} (hb : ∀ w ∈ mx_WS, w ∈ big) (hl : ∀ w ∈ l, w ∈ mx_WS) : GoodIn big l := fun w hw => ⟨hb w (hl w hw), good_of_word (List.mem_filter.mp (hl w hw)).2⟩
theorem mx_cd_s {n0 : Nat} (h : mx_cdb Y' n0 = true) (hw : mx_ws Y' = Cond.code (mx_nm Y') (mx_bs Y') (mx_ml Y') (mx_rt Y') :: mx_WS) : (∀ w ∈ mx_ws Y', w ∈ mx_WS) ∧ Cond.initialized (mx_nm Y').cls ∈ mx_WS ∧ ((mx_nm Y').cls ≠ "java/lang/invoke/MethodHandle" ∧ (mx_nm Y').cls ≠ "java/lang/invoke/VarHandle" ∧ (parseMethodDescriptor (mx_nm Y').desc).map (fun d => d.parameters.length) = some n0) ∧ mx_ml Y' ≤ 40 := by
  simp only [mx_cdb, Bool.and_eq_true, decide_eq_true_eq] at h
  obtain ⟨⟨⟨⟨⟨h1, h2⟩, h3⟩, h4⟩, h5⟩, h6⟩ := h
  refine ⟨fun w hw2 => ?_, h1, ⟨h3, h4, h5⟩, h6⟩
  rw [hw] at hw2
  rcases List.mem_cons.mp hw2 with rfl | hw2
  · exact h2
  · exact hw2
theorem mx_room (hC : mx_C l LK Y (d + 1) p R s m args meth c D T ad A mc ms) (hm : mx_ml Y' ≤ 40) : (mx_rm d n').frames + 1 ≤ R.frames ∧ 8 + (mx_ml Y' + 11) + (mx_rm d n').locals ≤ R.locals := by
  obtain ⟨-, -, -, -, -, ⟨-, -, h3, h4⟩, -⟩ := hC
  have e1 : (mx_rm d n').frames = d + 10 := rfl
  have e2 : (mx_rm d n').locals = 60 * d + 300 := rfl
  have e3 : mx_fr (d + 1) = d + 1 + 10 := rfl
  have e4 : mx_lo (d + 1) = 60 * (d + 1) + 300 := rfl
  omega
def mx_w (st : List Value) : Nat := (st.map fun v => v.category).sum
theorem mx_w_v (rest : List Value) : ((rest.map (mx_v ad)).map fun v => v.category).sum = mx_w rest := by
  unfold mx_w
  rw [List.map_map]
  congr 1
  apply List.map_congr_left
  intro v _
  cases v <;> rfl
/-- an object of the layout, at the machine -/
theorem mx_recv (hC : mx_C l LK Y d p R s m args meth c D T ad A mc ms) (hP : va_P D vwCl (mx_lay T ad LK M) H) {b ci : Nat} {fs : List (Option Nat)} (hb : LK.1[b]? = some (.inr (.inl (ci, fs)))) {C : String} {T0 : u_T} {N : Nat} (hcl : vwCl[ci]? = some (C, T0, N)) :
    ∃ cellB : Cell, H[ad b]? = some cellB ∧ cellB.vm.isStatics = false ∧ s.vm.findClass C = some cellB.cls := by
  obtain ⟨-, -, -, hK, -⟩ := hC
  obtain ⟨r, h1, cell, q1, q2, q3, -⟩ := hP b _ (mx_lay_get hb)
  obtain ⟨-, hfc, -⟩ := hK.1 ci _ hcl
  refine ⟨cell, q1, by rw [q3]; rfl, ?_⟩
  rw [q2]; exact hfc
/-- a method of an object is called -/
theorem mx_cV (hok : mx_ok Y fl tab) (k : Nat) {P : Prop} {pc' b ci idx n0 : Nat} {ls' As rest : List Value} {M' : mx_M} {fs : List (Option Nat)} {T0 : u_T} {N : Nat} (hh : mx_hh Y = []) (hM : mx_Ct l LK Y' d n' (.ref b :: As) M' Q')
    (h : mx_run fl LK tab k pc ls st M = some (P, pc', ls', As.reverse ++ .ref b :: rest, M')) (hP : P) (hd : tab.lookup pc' = some (.invokevirtual idx, 3)) (hb : LK.1[b]? = some (.inr (.inl (ci, fs)))) (hcl : vwCl[ci]? = some ((mx_nm Y').cls, T0, N))
    (hc : mx_cvb (mx_ow Y) idx Y' = true) (hc2 : mx_cdb Y' n0 = true) (hw : mx_ws Y' = Cond.code (mx_nm Y') (mx_bs Y') (mx_ml Y') (mx_rt Y') :: mx_WS) (hn : As.length = n0) (hr : Nat.ble (mx_w rest) 8 = true)
    (kr : ∀ v M2, Q' (.inl v) M2 → mx_E l LK Y (d + 1) n Q (pc' + 3) ls' (v.toList ++ rest) M2) (kx : ∀ E M2, Q' (.inr E) M2 → Q (.inr E) M2) : mx_E l LK Y (d + 1) (n + n') Q pc ls st M := by
  refine mx_go hok k h hP ?_
  have hd := hok.1 _ (mx_lk _ _ _ hd)
  dsimp only at hd
  obtain ⟨w1, w2, w3, w4⟩ := mx_cd_s hc2 hw
  simp only [mx_cvb, Bool.and_eq_true, decide_eq_true_eq] at hc
  obtain ⟨⟨c1, c2⟩, c3⟩ := hc
  intro p e R s m args below meth c D T ad A mc ms hC H locs cells slots la h1 h2 hls hPw hS
  have hroom := mx_room (n' := n') hC w4
  have hrecv := mx_recv hC hPw hb hcl
  have hpre := mx_pre hC hS hPw (.ref b :: As)
  have hCC := hC
  obtain ⟨⟨hx, hbb, hml, hown, hts⟩, -, -, -, -, ⟨hmc, hms, -, -⟩, -⟩ := hCC
  have hg : GoodIn (mx_ws Y) (wsV (mx_ow Y) idx (mx_nm Y').cls (mx_nm Y') (mx_ws Y')) := mx_gi hok.2.2 (fun w hw2 => by
    simp only [wsV, List.mem_append, List.mem_cons, List.not_mem_nil, or_false] at hw2
    rcases hw2 with (rfl | rfl | rfl | rfl) | hw2
    · exact c1
    · exact c2
    · exact c3
    · exact w2
    · exact w1 w hw2)
  refine mx_back (n := n) (n' := n') (Q' := Q') (rest := rest) (a := (Value.ref (ad b) :: As.map (mx_v ad)).toArray) hh hC h1 h2 hls hS ?_ kr kx
  refine vx_runV (C := (mx_nm Y').cls) (bytes := mx_bs Y') (maxL := mx_ml Y') (ret := mx_rt Y') (n := n0) (b := ad b) (As := As.map (mx_v ad)) ⟨hx, hbb, hml, hown, hts⟩ (hM D T ad H.size) (cwV n0 hts hg hw rfl rfl ⟨rfl, w3⟩ hroom) ⟨mx_blind, hrecv, hpre⟩ rfl (by rw [List.length_map]; exact hn) hls.2.1 ?_ ?_ hd ⟨by omega, by omega⟩
  · show List.map (mx_v ad) (As.reverse ++ .ref b :: rest) = _
    rw [List.map_append, List.map_reverse]
    rfl
  · show 2 * 0 + ((rest.map (mx_v ad)).map fun v => v.category).sum ≤ 8
    rw [mx_w_v]
    have := Nat.le_of_ble_eq_true hr
    omega
/-- a static method is called -/
theorem mx_cS (hok : mx_ok Y fl tab) (k : Nat) {P : Prop} {pc' idx n0 : Nat} {ls' As rest : List Value} {M' : mx_M} (hh : mx_hh Y = []) (hM : mx_Ct l LK Y' d n' As M' Q')
    (h : mx_run fl LK tab k pc ls st M = some (P, pc', ls', As.reverse ++ rest, M')) (hP : P) (hd : tab.lookup pc' = some (.invokestatic idx, 3))
    (hc : mx_csb (mx_ow Y) idx Y' = true) (hc2 : mx_cdb Y' n0 = true) (hw : mx_ws Y' = Cond.code (mx_nm Y') (mx_bs Y') (mx_ml Y') (mx_rt Y') :: mx_WS) (hn : As.length = n0) (hr : Nat.ble (mx_w rest) 8 = true)
    (kr : ∀ v M2, Q' (.inl v) M2 → mx_E l LK Y (d + 1) n Q (pc' + 3) ls' (v.toList ++ rest) M2) (kx : ∀ E M2, Q' (.inr E) M2 → Q (.inr E) M2) : mx_E l LK Y (d + 1) (n + n') Q pc ls st M := by
  refine mx_go hok k h hP ?_
  have hd := hok.1 _ (mx_lk _ _ _ hd)
  dsimp only at hd
  obtain ⟨w1, w2, w3, w4⟩ := mx_cd_s hc2 hw
  simp only [mx_csb, Bool.and_eq_true, decide_eq_true_eq] at hc
  obtain ⟨c1, c2⟩ := hc
  intro p e R s m args below meth c D T ad A mc ms hC H locs cells slots la h1 h2 hls hPw hS
  have hroom := mx_room (n' := n') hC w4
  have hpre := mx_pre hC hS hPw As
  have hCC := hC
  obtain ⟨⟨hx, hbb, hml, hown, hts⟩, -, -, -, -, ⟨hmc, hms, -, -⟩, -⟩ := hCC
  have hg : GoodIn (mx_ws Y) (va_wsS (mx_ow Y) idx (mx_nm Y') (mx_ws Y')) := mx_gi hok.2.2 (fun w hw2 => by
    simp only [va_wsS, List.mem_append, List.mem_cons, List.not_mem_nil, or_false] at hw2
    rcases hw2 with (rfl | rfl | rfl) | hw2
    · exact c1
    · exact c2
    · exact w2
    · exact w1 w hw2)
  refine mx_back (n := n) (n' := n') (Q' := Q') (rest := rest) (a := (As.map (mx_v ad)).toArray) hh hC h1 h2 hls hS ?_ kr kx
  refine vx_runS (bytes := mx_bs Y') (maxL := mx_ml Y') (ret := mx_rt Y') (n := n0) (As := As.map (mx_v ad)) ⟨hx, hbb, hml, hown, hts⟩ (hM D T ad H.size) (va_cwS n0 hts hg hw rfl rfl w3 hroom) ⟨mx_blind, hpre⟩ rfl (by rw [List.length_map]; exact hn) hls.2.1 ?_ ?_ hd ⟨by omega, by omega⟩
  · show List.map (mx_v ad) (As.reverse ++ rest) = _
    rw [List.map_append, List.map_reverse]
  · show 2 * 0 + ((rest.map (mx_v ad)).map fun v => v.category).sum ≤ 8
    rw [mx_w_v]
    have := Nat.le_of_ble_eq_true hr
    omega
theorem mx_met {a : List Value} (h : mx_Ct l LK Y d 0 a M Q) (hx : ∀ E M2, ¬ Q (.inr E) M2) (D : va_G) (T : mx_T) (ad : Nat → Nat) (sz : Nat) : Met l (mx_nm Y) (mx_ws Y) (mx_rm d 0) (mx_Pc LK a M D T ad sz) (mx_Qc LK D T ad (mx_A LK ad sz) Q) 0 (6 * 0) (mx_A LK ad sz) := by
  refine MetFree.mono (h D T ad sz) (fun _ _ h => h) (fun _ _ _ _ _ h => h) (fun a2 s2 o t _ hq => ?_)
  rcases hq with hq | ⟨q, rfl, E, ce, L, ⟨⟨M2, hX, -⟩, -⟩, -⟩
  · exact hq
  · exact (hx E M2 hX).elim
/-- a private static method of the host is called; it throws nothing -/
theorem mx_cN (hok : mx_ok Y fl tab) (k : Nat) {P : Prop} {pc' idx n0 : Nat} {ls' As rest : List Value} {M' : mx_M} (hh : mx_hh Y = []) (hM : mx_Ct l LK Y' d 0 As M' Q') (hnx : ∀ E M2, ¬ Q' (.inr E) M2)
    (h : mx_run fl LK tab k pc ls st M = some (P, pc', ls', As.reverse ++ rest, M')) (hP : P) (hd : tab.lookup pc' = some (.invokestatic idx, 3))
    (hc : mx_cnb (mx_ow Y) idx Y' = true) (hc2 : mx_cdb Y' n0 = true) (hw : mx_ws Y' = Cond.code (mx_nm Y') (mx_bs Y') (mx_ml Y') (mx_rt Y') :: mx_WS) (hn : As.length = n0) (hr : Nat.ble (mx_w rest) 8 = true)
    (kr : ∀ v M2, Q' (.inl v) M2 → mx_E l LK Y (d + 1) n Q (pc' + 3) ls' (v.toList ++ rest) M2) : mx_E l LK Y (d + 1) n Q pc ls st M := by
  refine mx_go hok k h hP ?_
  have hd := hok.1 _ (mx_lk _ _ _ hd)
  dsimp only at hd
  obtain ⟨w1, w2, w3, w4⟩ := mx_cd_s hc2 hw
  simp only [mx_cnb, Bool.and_eq_true, decide_eq_true_eq] at hc
  obtain ⟨c1, c2⟩ := hc
  intro p e R s m args below meth c D T ad A mc ms hC H locs cells slots la h1 h2 hls hPw hS
  have hroom := mx_room (n' := 0) hC w4
  have hpre := mx_pre hC hS hPw As
  have hCC := hC
  obtain ⟨⟨hx, hbb, hml, hown, hts⟩, -, -, -, hZ, ⟨hmc, hms, -, -⟩, -⟩ := hCC
  have hg : GoodIn (mx_ws Y) (mx_ws Y') := mx_gi hok.2.2 w1
  refine mx_back (n := n) (n' := 0) (Q' := Q') (rest := rest) (a := (As.map (mx_v ad)).toArray) hh hC h1 h2 hls hS ?_ kr (fun E M2 hq => (hnx E M2 hq).elim)
  have hrun := va_runSN (p := p) (l := l) (e := e) (R := R) (s := s) (m := m) (args := args) (below := below) (meth := meth) (c := c) (H := H) (locs := locs) (cells := cells) (slots := slots) (g := F0 m pc' la ((As.reverse ++ rest).map (mx_v ad))) (rest := rest.map (mx_v ad)) (bytes := mx_bs Y') (maxL := mx_ml Y') (ret := mx_rt Y') (n := n0) (As := As.map (mx_v ad)) (host := "PegBoards") ⟨hx, hbb, hml, hown, hts⟩ (mx_met hM hnx D T ad H.size) ⟨va_cnB n0 hts hg hw rfl rfl (hZ.1 _ c1) (hts _ (hok.2.2 _ w2)) w3 hroom, hts _ (hok.2.2 _ c2), trivial⟩ ⟨mx_blind, hpre⟩ rfl (by rw [List.length_map]; exact hn) hls.2.1 (by
      show List.map (mx_v ad) (As.reverse ++ rest) = _
      rw [List.map_append, List.map_reverse]) (by
      show 2 * 0 + ((rest.map (mx_v ad)).map fun v => v.category).sum ≤ 8
      rw [mx_w_v]
      have := Nat.le_of_ble_eq_true hr
      omega) hd ⟨by omega, by omega⟩
  intro Tt hT X
  exact Or.inl (hrun Tt hT X)
end MC
