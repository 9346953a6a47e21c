/-! Rules for the law: longs, methods with handlers, catching. -/
section ML
variable {l : Launch} {LK : mx_L} {Y Y' : mx_Y} {d n n' : Nat} {Q Q' : mx_R → mx_M → Prop} {fl : mx_F} {tab : mx_B} {pc : Nat} {ls st : List Value} {M : mx_M}
theorem mx_lcn (hok : mx_ok Y fl tab) (k : Nat) {P : Prop} {pc' : Nat} {c0 : Fin 2} {v : Int64} {ls' st' : List Value} {M' : mx_M} (h : mx_run fl LK tab k pc ls st M = some (P, pc', ls', st', M')) (hP : P) (hd : tab.lookup pc' = some (.lconst c0, 1)) (hv : Int64.ofNat (c0 : Nat) = v)
    (kk : mx_E l LK Y d n Q (pc' + 1) ls' (.long v :: st') M') : mx_E l LK Y d n Q pc ls st M := by
  refine mx_go hok k h hP ?_
  have hd := hok.1 _ (mx_lk _ _ _ hd)
  dsimp only at hd
  intro p e R s m args below meth c D T ad A mc ms hC H locs cells slots la h1 h2 hls hPw hS
  have hCC := hC
  obtain ⟨⟨hx, hb, hml, hown, hts⟩, -⟩ := hCC
  exact lv_lconst hx hb hd hv (kk p e R s m args below meth c D T ad A mc ms hC H locs cells slots la h1 h2 hls hPw hS)
theorem mx_i2l (hok : mx_ok Y fl tab) (k : Nat) {P : Prop} {pc' : Nat} {x : Int32} {ls' st' : List Value} {M' : mx_M} (h : mx_run fl LK tab k pc ls st M = some (P, pc', ls', .int x :: st', M')) (hP : P) (hd : tab.lookup pc' = some (.i2l, 1))
    (kk : mx_E l LK Y d n Q (pc' + 1) ls' (.long x.toInt64 :: st') M') : mx_E l LK Y d n Q pc ls st M := by
  refine mx_go hok k h hP ?_
  have hd := hok.1 _ (mx_lk _ _ _ hd)
  dsimp only at hd
  intro p e R s m args below meth c D T ad A mc ms hC H locs cells slots la h1 h2 hls hPw hS
  have hCC := hC
  obtain ⟨⟨hx, hb, hml, hown, hts⟩, -⟩ := hCC
  exact lv_i2l hx hb hd rfl (kk p e R s m args below meth c D T ad A mc ms hC H locs cells slots la h1 h2 hls hPw hS)
theorem mx_last (hok : mx_ok Y fl tab) (k : Nat) {P : Prop} {pc' a n0 : Nat} {i v : Int32} {x : Int64} {ls' st' : List Value} {M' : mx_M} (h : mx_run fl LK tab k pc ls st M = some (P, pc', ls', .long x :: .int i :: .ref a :: st', M')) (hP : P) (hd : tab.lookup pc' = some (.lastore, 1))
    (ha : LK.1[a]? = some (.inr (.inr (.inr (.inl n0))))) (hi : vp_in i n0) (hx0 : x = v.toInt64) (kk : mx_E l LK Y d n Q (pc' + 1) ls' st' (mx_up M' a i.toNatClampNeg v)) : mx_E l LK Y d n Q pc ls st M := by
  refine mx_go hok k h hP ?_
  have hd := hok.1 _ (mx_lk _ _ _ hd)
  dsimp only at hd
  intro p e R s m args below meth c D T ad A mc ms hC H locs cells slots la h1 h2 hls hPw hS
  have hCC := hC
  obtain ⟨⟨hx, hb, hml, hown, hts⟩, -, ⟨had, hAd, -⟩, hK, -⟩ := hCC
  refine va_last hx hb hK hPw (mx_D had hAd M') hS a 2 (mx_lay_get ha) rfl hi hd (fun H1 locs1 a1 a2 a3 => ?_)
  refine kk p e R s m args below meth c D T ad A mc ms hC H1 locs1 cells slots la h1 h2 hls ?_ a3
  rw [← mx_lay_up ha]
  have e9 : mx_cell T ad (.inr (.inr (.inr (.inl n0)))) (upd (M' a) i.toNatClampNeg v) = .inl (T.2.2.1, n0, .inr (.inl (vp_updL (fun j => (M' a j).toInt64) i.toNatClampNeg x))) := by
    have : (fun j => ((upd (M' a) i.toNatClampNeg v) j).toInt64) = vp_updL (fun j => (M' a j).toInt64) i.toNatClampNeg x := by
      funext j
      subst hx0
      unfold upd vp_updL
      split <;> rfl
    unfold mx_cell
    rw [← this]
  rw [e9]
  exact a1
theorem mx_lald (hok : mx_ok Y fl tab) (k : Nat) {P : Prop} {pc' a n0 : Nat} {i : Int32} {ls' st' : List Value} {M' : mx_M} (h : mx_run fl LK tab k pc ls st M = some (P, pc', ls', .int i :: .ref a :: st', M')) (hP : P) (hd : tab.lookup pc' = some (.laload, 1))
    (ha : LK.1[a]? = some (.inr (.inr (.inr (.inl n0))))) (hi : vp_in i n0) (kk : mx_E l LK Y d n Q (pc' + 1) ls' (.long (M' a i.toNatClampNeg).toInt64 :: st') M') : mx_E l LK Y d n Q pc ls st M := by
  refine mx_go hok k h hP ?_
  have hd := hok.1 _ (mx_lk _ _ _ hd)
  dsimp only at hd
  intro p e R s m args below meth c D T ad A mc ms hC H locs cells slots la h1 h2 hls hPw hS
  have hCC := hC
  obtain ⟨⟨hx, hb, hml, hown, hts⟩, -, ⟨had, hAd, -⟩, hK, -⟩ := hCC
  exact va_lald hx hb hK hPw a 2 (mx_lay_get ha) rfl hi hd (kk p e R s m args below meth c D T ad A mc ms hC H locs cells slots la h1 h2 hls hPw hS)
theorem mx_lcm (hok : mx_ok Y fl tab) (k : Nat) {P : Prop} {pc' : Nat} {x y : Int64} {ls' st' : List Value} {M' : mx_M} (h : mx_run fl LK tab k pc ls st M = some (P, pc', ls', .long y :: .long x :: st', M')) (hP : P) (hd : tab.lookup pc' = some (.lcmp, 1))
    (kk : mx_E l LK Y d n Q (pc' + 1) ls' (.int (lg_cmp x y) :: st') M') : mx_E l LK Y d n Q pc ls st M := by
  refine mx_go hok k h hP ?_
  have hd := hok.1 _ (mx_lk _ _ _ hd)
  dsimp only at hd
  intro p e R s m args below meth c D T ad A mc ms hC H locs cells slots la h1 h2 hls hPw hS
  have hCC := hC
  obtain ⟨⟨hx, hb, hml, hown, hts⟩, -⟩ := hCC
  exact W.lcmp hx hb hd (kk p e R s m args below meth c D T ad A mc ms hC H locs cells slots la h1 h2 hls hPw hS)
/-- a body with handlers -/
def mx_ybW (Y : mx_Y) (n : Nat) : Bool := plainName (mx_nm Y).cls && decide (mx_ow Y = (mx_nm Y).cls) && decide (n ≤ mx_ml Y)
theorem mx_bdW {a : List Value} {n0 : Nat} (hl : l.stackTraces = false) (hy : mx_ybW Y n0 = true) (hw : mx_ws Y = Cond.codeWith (mx_nm Y) (mx_bs Y) (mx_ml Y) (mx_rt Y) (mx_hh Y) :: mx_WS) (hn : a.length = n0) (ha : a.all mx_one = true) (h : mx_E l LK Y d n Q 0 (a ++ List.replicate (mx_ml Y - n0) .null) [] M) : mx_Ct l LK Y d n a M Q := by
  simp only [mx_ybW, Bool.and_eq_true, decide_eq_true_eq] at hy
  obtain ⟨⟨hy1, hy2⟩, hy4⟩ := hy
  subst hn
  have hc : ∀ v ∈ a, (∃ x, v = .int x) ∨ ∃ k, v = .ref k := by
    intro v hv
    have := List.all_eq_true.mp ha v hv
    cases v <;> first | exact Or.inl ⟨_, rfl⟩ | exact Or.inr ⟨_, rfl⟩ | cases this
  intro D T ad sz
  refine vx_ofWH (cc := mx_bs Y) (maxL := mx_ml Y) (ret := mx_rt Y) (hh := mx_hh Y) hy1 hw ?_
  intro p e s m args below meth c s₁ B hml hv
  obtain ⟨rfl, rfl, hP, hK, had, hZ⟩ := hv
  have hts := atoms_spec (ws := mx_ws Y) B.pre
  have hown : s.vm.findClass (mx_ow Y) = some m.cls := by rw [hy2]; exact findClass_of_methodNamed B.named
  have h0 := mx_ls_0 (ad := ad) (n := mx_ml Y) a hc hy4
  rw [lg_entry_eq]
  have htb2 : c.exceptionTable.toList = tableOf (mx_hh Y) := vx_table (x := mx_nm Y) B (hts _ (by rw [hw]; exact List.mem_cons_self))
  exact h p e (headSpec (mx_ws Y) (mx_rm d n)).room s m _ below meth c D T ad (mx_A LK ad s.heap.size) n (6 * n)
    ⟨⟨B.exec, B.bytes, hml, hown, hts⟩, ⟨B.returns, B.notSynchronized, htb2⟩, ⟨had, fun k hk => Or.inl ⟨k, hk, rfl⟩, fun q hq => Or.inr hq⟩, hK, hZ, ⟨Nat.le_refl _, Nat.le_refl _, Nat.le_refl _, Nat.le_refl _⟩, hl⟩
    s.heap [] 0 0 _ (by omega) (by omega) h0 hP va_S.rf
/-- locals behind a store of something foreign -/
theorem mx_ls_nl {ad : Nat → Nat} {nL : Nat} {ls : List Value} {la la' : Array Slot} {w : Value} (h : mx_ls ad nL ls la) {i : Nat}
    (h' : lv_has la' nL ((i, w) :: (mx_pr ad ls).filter (fun q => !(q.1 == i) && !(q.1 + 1 == i && q.2.category == 2)))) : mx_ls ad nL (ls.set i .null) la' := by
  obtain ⟨hn, -⟩ := h
  obtain ⟨h2, h3, h4⟩ := h'
  refine ⟨by rw [List.length_set]; exact hn, h2, h3, fun j x hx => ?_, fun j a ha => ?_⟩
  · rw [List.getElem?_set] at hx
    by_cases hj : i = j
    · subst hj
      rw [if_pos rfl] at hx
      split at hx <;> cases hx
    · rw [if_neg hj] at hx
      refine h4 (j, .int x) (List.mem_cons_of_mem _ (List.mem_filter.mpr ⟨mx_pr_int hx, ?_⟩))
      simp [Value.category, Ne.symm hj]
  · rw [List.getElem?_set] at ha
    by_cases hj : i = j
    · subst hj
      rw [if_pos rfl] at ha
      split at ha <;> cases ha
    · rw [if_neg hj] at ha
      refine h4 (j, .ref (ad a)) (List.mem_cons_of_mem _ (List.mem_filter.mpr ⟨mx_pr_ref ha, ?_⟩))
      simp [Value.category, Ne.symm hj]
/-- row i of the table catches E at pc, under the name nm; the rows ahead name other classes -/
def mx_nx : List String := ["java/lang/IllegalArgumentException", "java/lang/IllegalStateException", "java/lang/IndexOutOfBoundsException"]
def mx_ctb (Y : mx_Y) (pc : Nat) (E nm : String) (i : Nat) (hp : Nat) : Bool := match (mx_hh Y)[i]? with
  | some q => decide (q.1 ≤ pc) && decide (pc < q.2.1) && decide (q.2.2.1 = hp) && decide (q.2.2.2 ≠ 0) && decide (Cond.classLink (mx_ow Y) q.2.2.2 nm ∈ mx_WS) && decide (Cond.castable E nm ∈ mx_NW) &&
    ((mx_hh Y).take i).all (fun z => decide (z.2.2.2 ≠ 0) && mx_nx.any (fun w => decide (Cond.classLink (mx_ow Y) z.2.2.2 w ∈ mx_WS) && decide ((E, w) ∈ mx_NC)))
  | none => false
theorem mx_ct_s {pc0 : Nat} {E nm : String} {i hp : Nat} (h : mx_ctb Y pc0 E nm i hp = true) : ∃ q, (mx_hh Y)[i]? = some q ∧ q.1 ≤ pc0 ∧ pc0 < q.2.1 ∧ q.2.2.1 = hp ∧ q.2.2.2 ≠ 0 ∧ Cond.classLink (mx_ow Y) q.2.2.2 nm ∈ mx_WS ∧ Cond.castable E nm ∈ mx_NW ∧
    ∀ z ∈ (mx_hh Y).take i, z.2.2.2 ≠ 0 ∧ ∃ w, Cond.classLink (mx_ow Y) z.2.2.2 w ∈ mx_WS ∧ (E, w) ∈ mx_NC := by
  unfold mx_ctb at h
  split at h
  next q hq =>
    simp only [Bool.and_eq_true, decide_eq_true_eq, List.all_eq_true, List.any_eq_true] at h
    obtain ⟨⟨⟨⟨⟨⟨h1, h2⟩, h3⟩, h4⟩, h5⟩, h6⟩, h7⟩ := h
    refine ⟨q, hq, h1, h2, h3, h4, h5, h6, fun z hz => ?_⟩
    obtain ⟨a1, w, -, a2, a3⟩ := h7 z hz
    exact ⟨a1, w, a2, a3⟩
  next => cases h
/-- a method of an object is called where what it throws is caught -/
theorem mx_cVX (hok : mx_ok Y fl tab) (k : Nat) {P : Prop} {pc' b ci idx n0 : Nat} {ls' As rest : List Value} {M' : mx_M} {fs : List (Option Nat)} {T0 : u_T} {N : Nat} (hM : mx_Ct l LK Y' d n' (.ref b :: As) M' Q')
    (h : mx_run fl LK tab k pc ls st M = some (P, pc', ls', As.reverse ++ .ref b :: rest, M')) (hP : P) (hd : tab.lookup pc' = some (.invokevirtual idx, 3)) (hb : LK.1[b]? = some (.inr (.inl (ci, fs)))) (hcl : vwCl[ci]? = some ((mx_nm Y').cls, T0, N))
    (hc : mx_cvb (mx_ow Y) idx Y' = true) (hc2 : mx_cdb Y' n0 = true) (hw : mx_ws Y' = Cond.code (mx_nm Y') (mx_bs Y') (mx_ml Y') (mx_rt Y') :: mx_WS) (hn : As.length = n0) (hr : Nat.ble (mx_w rest) 8 = true)
    (kr : ∀ v M2, Q' (.inl v) M2 → mx_E l LK Y (d + 1) n Q (pc' + 3) ls' (v.toList ++ rest) M2)
    (kx : ∀ E M2, Q' (.inr E) M2 → ∃ (nm : String) (i hp kl len : Nat), mx_ctb Y pc' E nm i hp = true ∧ ((∃ k4 : Fin 4, tab.lookup hp = some (.astore_n k4, 1) ∧ (k4 : Nat) = kl ∧ len = 1) ∨ (tab.lookup hp = some (.astore kl, 2) ∧ len = 2)) ∧ kl < mx_ml Y ∧ mx_E l LK Y (d + 1) n Q (hp + len) (ls'.set kl .null) [] M2) : mx_E l LK Y (d + 1) (n + n') Q pc ls st M := by
  refine mx_go hok k h hP ?_
  have hd := hok.1 _ (mx_lk _ _ _ hd)
  dsimp only at hd
  obtain ⟨w1, w2, w3, w4⟩ := mx_cd_s hc2 hw
  simp only [mx_cvb, Bool.and_eq_true, decide_eq_true_eq] at hc
  obtain ⟨⟨c1, c2⟩, c3⟩ := hc
  intro p e R s m args below meth c D T ad A mc ms hC H locs cells slots la h1 h2 hls hPw hS
  have hroom := mx_room (n' := n') hC w4
  have hrecv := mx_recv hC hPw hb hcl
  have hpre := mx_pre hC hS hPw (.ref b :: As)
  have hin := mx_A_in hC hS
  have hCC := hC
  obtain ⟨⟨hx, hbb, hml, hown, hts⟩, ⟨hrt, hlk, htb⟩, -, -, ⟨z1, z2, z3, z4, z5, z6, z7⟩, ⟨hmc, hms, -, -⟩, -⟩ := hCC
  have hg : GoodIn (mx_ws Y) (wsV (mx_ow Y) idx (mx_nm Y').cls (mx_nm Y') (mx_ws Y')) := mx_gi hok.2.2 (fun w hw2 => by
    simp only [wsV, List.mem_append, List.mem_cons, List.not_mem_nil, or_false] at hw2
    rcases hw2 with (rfl | rfl | rfl | rfl) | hw2
    · exact c1
    · exact c2
    · exact c3
    · exact w2
    · exact w1 w hw2)
  have hr9 := vx_runV (p := p) (e := e) (R := R) (s := s) (m := m) (args := args) (below := below) (meth := meth) (c := c) (H := H) (locs := locs) (cells := cells) (slots := slots) (g := F0 m pc' la ((As.reverse ++ .ref b :: rest).map (mx_v ad))) (rest := rest.map (mx_v ad)) (C := (mx_nm Y').cls) (bytes := mx_bs Y') (maxL := mx_ml Y') (ret := mx_rt Y') (n := n0) (b := ad b) (As := As.map (mx_v ad)) ⟨hx, hbb, hml, hown, hts⟩ (hM D T ad H.size) (cwV n0 hts hg hw rfl rfl ⟨rfl, w3⟩ hroom) ⟨mx_blind, hrecv, hpre⟩ rfl (by rw [List.length_map]; exact hn) hls.2.1 (by
      show List.map (mx_v ad) (As.reverse ++ .ref b :: rest) = _
      rw [List.map_append, List.map_reverse]
      rfl) (by
      show 2 * 0 + ((rest.map (mx_v ad)).map fun v => v.category).sum ≤ 8
      rw [mx_w_v]
      have := Nat.le_of_ble_eq_true hr
      omega) hd ⟨by omega, by omega⟩
  intro Tt hT X
  rcases hr9 Tt hT X with ⟨v0, st₀, t, T', L, h0, X', hL, e1, e2, ⟨⟨v, M2, hv, hq, hP'⟩, hF⟩, st⟩ | ⟨q, st₀, t, T', L, E, ce, h0, X', hL, e1, e2, ⟨⟨M2, hq, hP'⟩, hF⟩, hce, hcv, hcl9, st⟩
  · obtain ⟨-, -, k3⟩ := vx_keep h0 e1 hS (fun q _ hq => hin q hq) hin hL hF
    have hv0 : v0 = v.map (mx_v ad) := by cases hv; rfl
    subst hv0
    obtain ⟨t2, a1, b1⟩ := kr v M2 hq p e R s m args below meth c D T ad A mc ms hC T'.heap (locs ++ L) (cells + n') (slots + 6 * n') la (by omega) (by omega) hls (by rw [e1]; exact hP') k3 T' rfl X'
    refine ⟨t2, st t2 ?_, b1⟩
    have hst : (v.map (mx_v ad)).toList ++ rest.map (mx_v ad) = (v.toList ++ rest).map (mx_v ad) := by cases v <;> rfl
    show Steps p.tables e below (T'.setTop { method := m, pc := pc' + 3, locals := la, stack := (v.map (mx_v ad)).toList ++ rest.map (mx_v ad), locked := none }) t2
    rw [hst]
    exact a1
  · obtain ⟨-, -, k3⟩ := vx_keep h0 e1 hS (fun q _ hq => hin q hq) hin hL hF
    obtain ⟨nm, i, hp, kl, len, hct, hst, hkl, hE⟩ := kx E M2 hq
    obtain ⟨y, y0, y1, y2, y3, y4, y5, y6, y7⟩ := mx_ct_s hct
    have hsp : mx_hh Y = (mx_hh Y).take i ++ y :: (mx_hh Y).drop (i + 1) := by
      have hlt := (List.getElem?_eq_some_iff.mp y0).1
      have e9 := (List.getElem?_eq_some_iff.mp y0).2
      rw [← e9, List.getElem_cons_drop, List.take_append_drop]
    have hsplit : c.exceptionTable.toList = tableOf ((mx_hh Y).take i) ++ (⟨y.1, y.2.1, y.2.2.1, y.2.2.2⟩ : ExceptionTableEntry) :: tableOf ((mx_hh Y).drop (i + 1)) := by
      rw [htb]
      conv => lhs; rw [hsp]
      simp only [tableOf, List.map_append, List.map_cons]
    have kW : W p l e R s m args below meth c T'.heap (locs ++ L) (cells + n') (slots + 6 * n') (vx_MQ below (mx_Qc LK D T ad A Q) (mx_XC LK D T ad A Q) args s mc ms A) (F0 m hp la [.ref q]) := by
      have kE := fun la' (hls' : mx_ls ad (mx_ml Y) (ls'.set kl .null) la') => hE p e R s m args below meth c D T ad A mc ms hC T'.heap (locs ++ L) (cells + n') (slots + 6 * n') la' (by omega) (by omega) hls' (by rw [e1]; exact hP') k3
      rcases hst with ⟨k4, q1, rfl, rfl⟩ | ⟨q1, rfl⟩
      · have q2 := hok.1 _ (mx_lk _ _ _ q1)
        dsimp only at q2
        exact lv_astore_n hx hbb q2 rfl (mx_ls_has hls) hkl rfl (fun la' hl' => kE la' (mx_ls_nl hls hl'))
      · have q2 := hok.1 _ (mx_lk _ _ _ q1)
        dsimp only at q2
        exact lv_astore hx hbb q2 (mx_ls_has hls) hkl rfl (fun la' hl' => kE la' (mx_ls_nl hls hl'))
    obtain ⟨t2, a1, b1⟩ := vx_catch (own := mx_ow Y) (name := nm) (E := E) (ce := ce) (q := q) (rest := rest.map (mx_v ad)) (ls := la) (pc := pc') hown (tableOf ((mx_hh Y).take i)) ⟨y.1, y.2.1, y.2.2.1, y.2.2.2⟩ (tableOf ((mx_hh Y).drop (i + 1))) hsplit
      (fun z hz => by
        obtain ⟨z9, hz9, rfl⟩ := List.mem_map.mp hz
        obtain ⟨g1, w, g2, g3⟩ := y7 z9 hz9
        exact Or.inr ⟨g1, w, hts _ (hok.2.2 _ g2), z3 _ g3⟩)
      (by simp [covers, y1, y2]) y4 (hts _ (hok.2.2 _ y5)) (va_Nw.use rfl (z1 _ y6)) (by rw [e1]; exact hce) hcv hcl9 (by rw [← y3] at kW; exact kW) T' rfl X'
    exact ⟨t2, st.trans a1, b1⟩
def mx_cdbW (Y' : mx_Y) (n : Nat) : Bool := decide (Cond.initialized (mx_nm Y').cls ∈ mx_WS) && decide (Cond.codeWith (mx_nm Y') (mx_bs Y') (mx_ml Y') (mx_rt Y') (mx_hh Y') ∈ mx_WS) && decide ((mx_nm Y').cls ≠ "java/lang/invoke/MethodHandle") && decide ((mx_nm Y').cls ≠ "java/lang/invoke/VarHandle") && decide ((parseMethodDescriptor (mx_nm Y').desc).map (fun d => d.parameters.length) = some n) && decide (mx_ml Y' ≤ 40)
theorem mx_cdW_s {n0 : Nat} (h : mx_cdbW Y' n0 = true) (hw : mx_ws Y' = Cond.codeWith (mx_nm Y') (mx_bs Y') (mx_ml Y') (mx_rt Y') (mx_hh Y') :: mx_WS) : (∀ w ∈ mx_ws Y', w ∈ mx_WS) ∧ Cond.initialized (mx_nm Y').cls ∈ mx_WS ∧ ((mx_nm Y').cls ≠ "java/lang/invoke/MethodHandle" ∧ (mx_nm Y').cls ≠ "java/lang/invoke/VarHandle" ∧ (parseMethodDescriptor (mx_nm Y').desc).map (fun d => d.parameters.length) = some n0) ∧ mx_ml Y' ≤ 40 := by
  simp only [mx_cdbW, Bool.and_eq_true, decide_eq_true_eq] at h
  obtain ⟨⟨⟨⟨⟨h1, h2⟩, h3⟩, h4⟩, h5⟩, h6⟩ := h
  refine ⟨fun w hw2 => ?_, h1, ⟨h3, h4, h5⟩, h6⟩
  rw [hw] at hw2
  rcases List.mem_cons.mp hw2 with rfl | hw2
  · exact h2
  · exact hw2
theorem mx_metn {a : List Value} (h : mx_Ct l LK Y d n a M Q) (hx : ∀ E M2, ¬ Q (.inr E) M2) (D : va_G) (T : mx_T) (ad : Nat → Nat) (sz : Nat) : Met l (mx_nm Y) (mx_ws Y) (mx_rm d n) (mx_Pc LK a M D T ad sz) (mx_Qc LK D T ad (mx_A LK ad sz) Q) n (6 * n) (mx_A LK ad sz) := by
  refine MetFree.mono (h D T ad sz) (fun _ _ h => h) (fun _ _ _ _ _ h => h) (fun a2 s2 o t _ hq => ?_)
  rcases hq with hq | ⟨q, rfl, E, ce, L, ⟨⟨M2, hX, -⟩, -⟩, -⟩
  · exact hq
  · exact (hx E M2 hX).elim
/-- a static method with handlers is called; it throws nothing -/
theorem mx_cSW (hok : mx_ok Y fl tab) (k : Nat) {P : Prop} {pc' idx n0 : Nat} {ls' As rest : List Value} {v : Int32} {M' M3 : mx_M} (hh : mx_hh Y = []) (hM : mx_Ct l LK Y' d n' As M' (mx_rI v M3))
    (h : mx_run fl LK tab k pc ls st M = some (P, pc', ls', As.reverse ++ rest, M')) (hP : P) (hd : tab.lookup pc' = some (.invokestatic idx, 3))
    (hc : mx_csb (mx_ow Y) idx Y' = true) (hc2 : mx_cdbW Y' n0 = true) (hw : mx_ws Y' = Cond.codeWith (mx_nm Y') (mx_bs Y') (mx_ml Y') (mx_rt Y') (mx_hh Y') :: mx_WS) (hn : As.length = n0) (hr : Nat.ble (mx_w rest) 8 = true)
    (kr : mx_E l LK Y (d + 1) n Q (pc' + 3) ls' (.int v :: rest) M3) : mx_E l LK Y (d + 1) (n + n') Q pc ls st M := by
  refine mx_go hok k h hP ?_
  have hd := hok.1 _ (mx_lk _ _ _ hd)
  dsimp only at hd
  obtain ⟨w1, w2, w3, w4⟩ := mx_cdW_s hc2 hw
  simp only [mx_csb, Bool.and_eq_true, decide_eq_true_eq] at hc
  obtain ⟨c1, c2⟩ := hc
  have hnx : ∀ E M2, ¬ mx_rI v M3 (.inr E) M2 := fun E M2 q => by obtain ⟨q1, -⟩ := q; cases q1
  intro p e R s m args below meth c D T ad A mc ms hC H locs cells slots la h1 h2 hls hPw hS
  have hroom := mx_room (n' := n') hC w4
  have hpre := mx_pre hC hS hPw As
  have hCC := hC
  obtain ⟨⟨hx, hbb, hml, hown, hts⟩, -, -, -, hZ, ⟨hmc, hms, -, -⟩, -⟩ := hCC
  have hg : GoodIn (mx_ws Y) (va_wsS (mx_ow Y) idx (mx_nm Y') (mx_ws Y')) := mx_gi hok.2.2 (fun w hw2 => by
    simp only [va_wsS, List.mem_append, List.mem_cons, List.not_mem_nil, or_false] at hw2
    rcases hw2 with (rfl | rfl | rfl) | hw2
    · exact c1
    · exact c2
    · exact w2
    · exact w1 w hw2)
  refine mx_back (n := n) (n' := n') (Q' := mx_rI v M3) (rest := rest) (a := (As.map (mx_v ad)).toArray) hh hC h1 h2 hls hS ?_ (fun v2 M2 q => by obtain ⟨q1, rfl⟩ := q; cases q1; exact kr) (fun E M2 hq => (hnx E M2 hq).elim)
  have hrun := vx_runSW (p := p) (l := l) (e := e) (R := R) (s := s) (m := m) (args := args) (below := below) (meth := meth) (c := c) (H := H) (locs := locs) (cells := cells) (slots := slots) (g := F0 m pc' la ((As.reverse ++ rest).map (mx_v ad))) (rest := rest.map (mx_v ad)) (bytes := mx_bs Y') (maxL := mx_ml Y') (ret := mx_rt Y') (hh := mx_hh Y') (n := n0) (As := As.map (mx_v ad)) ⟨hx, hbb, hml, hown, hts⟩ (mx_metn hM hnx D T ad H.size) (vx_cwSW n0 hts hg hw rfl rfl w3 hroom) ⟨mx_blind, hpre⟩ rfl (by rw [List.length_map]; exact hn) hls.2.1 (by
      show List.map (mx_v ad) (As.reverse ++ rest) = _
      rw [List.map_append, List.map_reverse]) (by
      show 2 * 0 + ((rest.map (mx_v ad)).map fun v => v.category).sum ≤ 8
      rw [mx_w_v]
      have := Nat.le_of_ble_eq_true hr
      omega) hd ⟨by omega, by omega⟩
  intro Tt hT X
  exact Or.inl (hrun Tt hT X)
/-- more room does no harm -/
theorem mx_En {k : Nat} (hk : n ≤ k) (h : mx_E l LK Y d n Q pc ls st M) : mx_E l LK Y d k Q pc ls st M := by
  intro p e R s m args below meth c D T ad A mc ms hC H locs cells slots la h1 h2 hls hPw hS
  exact h p e R s m args below meth c D T ad A mc ms hC H locs cells slots la (by omega) (by omega) hls hPw hS
/-- a number answered goes into cell 60 -/
def wrM (r : mx_R) (M1 : mx_M) : mx_M := match r with
  | .inl (some (.int v)) => mx_up M1 60 0 v
  | _ => M1
theorem wrM_off {r : mx_R} {M1 : mx_M} {c : Nat} (hc : c ≠ 60) : wrM r M1 c = M1 c := by
  unfold wrM
  split
  · exact mx_up_off hc
  · rfl
end ML
