/-! The claim out of one walk of the law. -/
def R_law : String := "PegBoardsLaw"
def lw_P (b : Addr) (xs : List Int32) (args : Array Value) (s : State) : Prop := args = #[.ref b] ∧ s.IntsAt b xs ∧ xs.length ≤ 1536 ∧ (Jvm.Cond.and given_1 narrow_1).before args s = true
def lw_Q (_ : Array Value) (s : State) (o : Outcome) (t : State) : Prop := o = .returned (some (.int 1)) ∧ Framed s o t [] 601024 7293034
def lw_Z (below : List Frame) (a : Array Value) (s : State) : State → Prop := fun t => ∃ o, t.status = .running ∧ Ended t below o ∧ lw_Q a s o t
/-- what holds at the law's entry: the machine, the code, the tables' words (any of lw_tbl by 'hts w (by decide +kernel)'), the script of L ints xs at the cell b, what the Statement gives of the start (any of its parts by flat_of_before) -/
def lw_At (p : Program) (s : State) (m : MethodId) (meth : Method) (c : Code) (b L : Nat) (xs : Nat → Int32) : Prop :=
  p.tables.exec = Jvm.exec ∧ c.code = code ∧ meth.sig.returnType = ret ∧ c.maxLocals = 7 ∧ s.vm.findClass R_law = some m.cls ∧ (∀ w ∈ lw_tbl, w.before #[Value.ref b] s = true) ∧ va_X b L xs s s.heap ∧ b < s.heap.size ∧ meth.locks = false ∧ (Jvm.Cond.and given_1 narrow_1).before #[Value.ref b] s = true
set_option maxRecDepth 20000 in
set_option maxHeartbeats 4000000 in
/-- from the entry, for every script of at most 1536 ints, the law comes to its end with true -/
theorem whole_start {p : Program} {e : Env} {s : State} {m : MethodId} {below : List Frame} {meth : Method} {c : Code} (l : Launch) (hl : l.stackTraces = false) {b L : Nat} {xs : Nat → Int32} (hL : L ≤ 1536) (C0 : lw_At p s m meth c b L xs) (hexc : c.exceptionTable.toList = []) : W p l e room_1 s m #[Value.ref b] below meth c s.heap [] 0 0 (lw_Z below #[Value.ref b] s) (entryFrame m ([Value.ref b] : List Value).toArray 7) := by
  obtain ⟨hx, hb, hr, hml, hown, hts, hX, hbl, hlk, hgv⟩ := C0
  obtain ⟨A, hAd⟩ : ∃ A : Nat → Prop, A = fun q => s.heap.size ≤ q := ⟨_, rfl⟩
  have hA : ∀ q, s.heap.size ≤ q → A q := fun q h => by rw [hAd]; exact h
  have hA0 : ∀ a : Nat, a < s.heap.size → ¬ A a := fun a h y => by rw [hAd] at y; exact absurd y (Nat.not_le.mpr h)
  have hO : cn_AO s := hts _ ao_in
  have hW : ∀ w ∈ mx_WS, w.before #[Value.ref b] s = true := fun w hw => hts w (ws_in w hw)
  obtain ⟨D, T, hK⟩ := st_K hW hO
  obtain ⟨t0, t1, t2, t3, hZ⟩ := st_Z hts hgv hA0 hX hbl
  obtain ⟨adS, e0, e1, e2, e3, e4⟩ : ∃ adS : Nat → Nat, adS 1000 = t0 ∧ adS 1001 = t1 ∧ adS 1002 = t2 ∧ adS 1003 = t3 ∧ adS 1004 = b := ⟨fun k => if k = 1000 then t0 else if k = 1001 then t1 else if k = 1002 then t2 else if k = 1003 then t3 else b, rfl, rfl, rfl, rfl, rfl⟩
  have hC : cn_C p s m #[Value.ref b] c D T adS A mY_La_law := ⟨⟨hx, hb, hml, hown, hW⟩, hA, hK, (hZ adS e0 e1 e2 e3 e4).1, hO⟩
  have hl0 := lv_entry ([.ref b]) (n := 7) (vle rfl)
  rw [lg_entry_eq]
  generalize (lg_sl ([.ref b]) ++ List.replicate (7 - (lg_sl ([.ref b])).length) Slot.unset).toArray = la at hl0 ⊢
  have hl0 : lv_has la 7 [(0, .ref b)] := hl0
  suffices h : cn_W p l e room_1 s m #[Value.ref b] below meth c D A (lw_Z below #[Value.ref b] s) la [] 0 [] 0 0 from
    h s.heap [] (fun k q hk => by simp at hk) ⟨fun i j x y hx _ _ => by simp at hx, fun k q hk => by simp at hk⟩ va_S.rf
  refine cn_new (ci := 6) (fs := [.null, .null, .null, .null, .null, .int 0, .int 0]) mL_init hC rfl wL_8 wx_Pe wy_Pe rfl wu_Pe wf_Pe (vle rfl) (vle rfl) (fun q0 => ?_)
  refine cn_dup mL_init hC rfl ?_
  refine cn_call (k := 0) (wr := []) mL_init hC (ci_Pe hl) rfl (Or.inr wL_69) wz_Pe_init kd_Pe_init rfl rfl rfl [] rfl rfl rfl (by decide) hl0.1 (by rfl) (vle rfl) (vle rfl) (vle rfl) (vle rfl) (fun r1 hr1 => ?_)
  refine cn_ast (i := 1) mL_init hC hl0 rfl (by decide) rfl (fun la1 hl1 => ?_)
  have hl1 : lv_has la1 7 [(1, .ref q0), (0, .ref b)] := hl1
  refine cn_eq (ws' := co_Pe T q0 r1) (pc' := 8) (cells' := 41) (slots' := 6111) rfl rfl rfl rfl ?_
  refine cn_new (ci := 7) (fs := [.int 0, .int 0, .int 0, .int 0, .null, .null, .null, .null, .int 0, .null, .null, .null, .int 0, .null, .null, .null, .int 0, .int 0, .null, .null, .int 0, .null, .null, .null, .null, .null, .int 0, .null]) mL_init hC rfl wL_70 wx_Mo wy_Mo rfl wu_Mo wf_Mo (vle rfl) (vle rfl) (fun q1 => ?_)
  refine cn_dup mL_init hC rfl ?_
  refine cn_call (k := 41) (wr := co_Pe T q0 r1) mL_init hC (ci_Mo hl) rfl (Or.inr wL_72) wz_Mo_init kd_Mo_init rfl rfl rfl (List.range 41) rfl rfl (by decide) (by decide) hl1.1 (by rfl) (vle rfl) (vle rfl) (vle rfl) (vle rfl) (fun r2 hr2 => ?_)
  refine cn_ast (i := 2) mL_init hC hl1 rfl (by decide) rfl (fun la2 hl2 => ?_)
  have hl2 : lv_has la2 7 [(2, .ref q1), (1, .ref q0), (0, .ref b)] := hl2
  refine cn_eq (ws' := co_Pe T q0 r1 ++ co_Mo T q1 r2) (pc' := 16) (cells' := 60) (slots' := 20499) rfl rfl rfl rfl ?_
  refine cn_ico (n := nI 1) mL_init hC rfl (by decide) ?_
  refine cn_newl (N := 1) mL_init hC rfl wa_long rfl (vle rfl) (vle rfl) (vle rfl) (fun q2 => ?_)
  refine cn_ast (i := 3) mL_init hC hl2 rfl (by decide) rfl (fun la3 hl3 => ?_)
  have hl3 : lv_has la3 7 [(3, .ref q2), (2, .ref q1), (1, .ref q0), (0, .ref b)] := hl3
  refine cn_eq (ws' := wF T q0 q1 q2 r1 r2) (pc' := 20) (cells' := 61) (slots' := 20500) rfl rfl rfl rfl ?_
  intro H locs hP hD hS
  obtain ⟨ad, had⟩ : ∃ ad : Nat → Nat, ad = adW q0 q1 q2 r1 r2 adS := ⟨_, rfl⟩
  obtain ⟨hP2, hD2⟩ := wF_PD (adS := adS) (sc := (L, xs)) hP hD
  rw [← had] at hP2 hD2
  have hZ2 := (hZ ad (by rw [had]; exact e0) (by rw [had]; exact e1) (by rw [had]; exact e2) (by rw [had]; exact e3) (by rw [had]; exact e4)).2
  have a0 : ad 0 = q0 := by rw [had]; rfl
  have a41 : ad 41 = q1 := by rw [had]; rfl
  have a60 : ad 60 = q2 := by rw [had]; rfl
  have a1004 : ad 1004 = b := by rw [had]; exact e4
  have hls : mx_ls ad 7 [.ref 1004, .ref 0, .ref 41, .ref 60, .null, .null, .null] la3 := by
    refine ⟨rfl, hl3.1, hl3.2.1, fun i x hi => ?_, fun i a hi => ?_⟩
    · match i, hi with
      | 0, hi => cases hi
      | 1, hi => cases hi
      | 2, hi => cases hi
      | 3, hi => cases hi
      | 4, hi => cases hi
      | 5, hi => cases hi
      | 6, hi => cases hi
      | i + 7, hi => cases hi
    · match i, hi with
      | 0, hi => cases hi; rw [a1004]; exact lv_at hl3 3 rfl
      | 1, hi => cases hi; rw [a0]; exact lv_at hl3 2 rfl
      | 2, hi => cases hi; rw [a41]; exact lv_at hl3 1 rfl
      | 3, hi => cases hi; rw [a60]; exact lv_at hl3 0 rfl
      | 4, hi => cases hi
      | 5, hi => cases hi
      | 6, hi => cases hi
      | i + 7, hi => cases hi
  have hlen : (pg_L (L, xs)).1.length = 61 := rfl
  have hget : ∀ k, k < (pg_L (L, xs)).1.length → ∃ q, (mx_lay T ad (pg_L (L, xs)) M0)[k]? = some q ∧ q.1 = ad k := by
    intro k hk
    exact ⟨_, mx_lay_get (List.getElem?_eq_getElem hk), rfl⟩
  have hmad : mx_ad (pg_L (L, xs)) ad := by
    intro i j hi hj hij
    obtain ⟨x, x1, x2⟩ := hget i hi
    obtain ⟨y, y1, y2⟩ := hget j hj
    exact hD2.1 i j x y x1 y1 (by rw [x2, y2]; exact hij)
  have hAd2 : ∀ k, k < (pg_L (L, xs)).1.length → A (ad k) := by
    intro k hk
    obtain ⟨x, x1, x2⟩ := hget k hk
    rw [← x2]
    exact hD2.2 k x x1
  have hMC : mx_C l (pg_L (L, xs)) mY_La_law 30 p room_1 s m #[Value.ref b] meth c D T ad A 601024 7293034 := by
    refine ⟨⟨hx, hb, hml, hown, hW⟩, ⟨hr, hlk, hexc⟩, ⟨hmad, hAd2, hA⟩, hK, hZ2, ⟨vle rfl, vle rfl, vle rfl, vle rfl⟩, hl⟩
  have loop := lw_loop (Q := fun r _ => r = .inl (some (.int 1))) (xs := xs) hl (fun _ => rfl) hL 512 0 M0 (by omega) (by omega) iv_M0 .null .null
  have E : mx_E l (pg_L (L, xs)) mY_La_law 30 (2 * 512) (fun r _ => r = .inl (some (.int 1))) 20 [.ref 1004, .ref 0, .ref 41, .ref 60, .null, .null, .null] [] M0 := mx_go mL_head 2 rfl trivial loop
  have w := E p e room_1 s m #[Value.ref b] below meth c D T ad A 601024 7293034 hMC H locs 61 20500 la3 (by omega) (by omega) hls hP2 hS
  intro T1 hT1 X1
  obtain ⟨t, s1, o, o1, o2, o3⟩ := w T1 hT1 X1
  refine ⟨t, s1, o, o1, o2, ?_⟩
  rcases o3 with ⟨⟨⟨v, M', hv, hq, -⟩, -⟩, Lc, hFr, hLc⟩ | ⟨q, rfl, E9, ce, Lc, ⟨⟨M', hq, -⟩, -⟩, -⟩
  · have hv1 : v = some (.int 1) := by
      have : (Sum.inl v : mx_R) = .inl (some (.int 1)) := hq
      exact Sum.inl.inj this
    subst hv1
    exact ⟨hv, lw_frm hFr (fun z hz => by have := hLc z hz; rw [hAd] at this; exact this) (Nat.le_refl _) (Nat.le_refl _)⟩
  · have : (Sum.inr E9 : mx_R) = .inl (some (.int 1)) := hq
    cases this
set_option maxHeartbeats 4000000 in
theorem lw_walk (l : Launch) (hl : l.stackTraces = false) (b : Addr) (xs : List Int32) : MetFree l x (headSpec (Jvm.Cond.code x code maxLocals ret :: tables_1) room_1) (lw_P b xs) (fun _ _ _ _ _ => True) lw_Q := by
  refine MetFree.of_bodyS (code := code) (maxLocals := maxLocals) (ret := ret) (by decide) ?_ ?_
  · intro args s m h hn
    obtain ⟨meth, c, h1, h2, h3, h4, h5, h6, -, -⟩ := Cond.code_spec hn (atoms_spec (ws := Jvm.Cond.code x code maxLocals ret :: tables_1) h _ List.mem_cons_self)
    exact ⟨meth, c, h1, h2, h3, h4, h5, h6⟩
  · intro p e s m args below meth c s₁ B hml0 hP _
    obtain ⟨rfl, hx, hbd, hgv⟩ := hP
    obtain ⟨scr, harrAt, hlist, hof, hsmall⟩ := hx
    obtain ⟨hcb, hkn, -, -⟩ := State.arrayAt?_spec harrAt
    have hown : s.vm.findClass R_law = some m.cls := findClass_of_methodNamed B.named
    have hts0 : ∀ c ∈ (Jvm.Cond.code x code maxLocals ret :: tables_1), c.before #[Value.ref b] s = true := atoms_spec (ws := Jvm.Cond.code x code maxLocals ret :: tables_1) B.pre
    have hts : ∀ w ∈ lw_tbl, w.before #[Value.ref b] s = true := k2_hts_sels lw_privs (fun w hw => hts0 w (List.mem_cons_of_mem _ hw)) lw_privs_ok
    have hml : c.maxLocals = 7 := B.maxLocals_eq (hts0 _ List.mem_cons_self)
    have hexc : c.exceptionTable.toList = [] := by
      obtain ⟨meth9, c9, h1, h2, -, -, -, -, h7, -⟩ := Cond.code_spec B.named (hts0 _ List.mem_cons_self)
      cases Option.some.inj (h1.symm.trans B.method)
      cases Option.some.inj (h2.symm.trans (Stand.of_body B).code)
      rw [Array.isEmpty_iff.mp h7]
    have X₀ : Stand p l e room_1 s m #[Value.ref b] below meth c s₁ [] 0 0 := Stand.of_body B
    have hh0 : s₁.heap = s.heap := by rw [B.state]; rfl
    have hsz : scr.slots.size = xs.length := by rw [← Array.length_toList, hlist, List.length_map]
    have hval : ∀ j : Nat, j < xs.length → scr.slots[j]? = some (.int (xs.getD j 0)) := fun j hj => by
      rw [← Array.getElem?_toList, hlist]
      simp [hj]
    have hbl : b < s.heap.size := (Array.getElem?_eq_some_iff.mp hcb).1
    have hX : va_X b xs.length (fun j => xs.getD j 0) s s.heap := ⟨scr, hcb, hof, hkn, hsz, hval⟩
    have K : W p l e room_1 s m #[Value.ref b] below meth c s₁.heap [] 0 0 (lw_Z below #[Value.ref b] s) (entryFrame m ([Value.ref b] : List Value).toArray 7) := by
      rw [hh0]
      exact whole_start l hl hbd ⟨B.exec, B.bytes, B.returns, hml, hown, hts, hX, hbl, B.notSynchronized, hgv⟩ hexc
    obtain ⟨t, a1, o, b1, b2, b3⟩ := K s₁ rfl X₀
    exact ⟨t, o, a1, b1, b2, b3⟩
theorem lw_pre_spec {args : Array Value} {s : State} (h : (Jvm.Cond.and given_1 narrow_1).before args s = true) (hr : rest_1_c.before args s = true) : ∃ (b : Addr) (xs : List Int32), lw_P b xs args s := by
  have hs := flat_of_before _ h
  have hq := flat_of_before _ hr
  have hc : (Cond.count 1).before args s = true := hs _ (by decide +kernel)
  have harr : (Cond.arrayOf (.arg 0) .int).before args s = true := hs _ (by decide +kernel)
  have hle : (Cond.le (.length (.arg 0)) (.int 1536)).before args s = true := hs _ (by decide +kernel)
  have hlen : (Cond.isInt (.length (.arg 0))).before args s = true := hq _ (by decide +kernel)
  have hall : (Cond.all (.arg 0) (.isInt (.elem (.arg 0) (.index 0)))).before args s = true := hq _ (by decide +kernel)
  obtain ⟨b, xs, hb, hx⟩ := State.ints_of_pre rfl harr hlen hall
  have hsm : xs.length < 2 ^ 31 := hx.choose_spec.2.2.2
  have hev : (Term.length (.arg 0)).eval args s none [] s = some (.int xs.length.toInt32) := hx.length_eval hb
  have hv := Cond.le_ints hev (show (Term.int 1536).eval args s none [] s = some (.int 1536) from rfl)
  have hd : xs.length.toInt32 ≤ 1536 := by
    simpa [Cond.before, Cond.holds, hv] using hle
  have hN : xs.length ≤ 1536 := (Int32.ofNat_le_ofNat hsm (by decide)).mp (show Int32.ofNat xs.length ≤ Int32.ofNat 1536 from hd)
  exact ⟨b, xs, Cond.one_arg hc (show args[0]? = some (.ref b) from hb), hx, hN, h⟩
theorem lw_comes (l : Launch) (hl : l.stackTraces = false) : Comes l x (Jvm.Cond.code x code maxLocals ret :: tables_1) room_1 (fun tb e args s => Calls_1 tb e args s ∧ rest_1 tb e args s ∧ Pre_1 tb e args s)
    (fun _ _ args s o t => lw_Q args s o t) := by
  intro p e ha hc hk s m args below hf hfit hheap happ hpre
  obtain ⟨b, xs, hP⟩ := lw_pre_spec hpre.2.2 hpre.2.1
  obtain ⟨k, o, h1, h2, h3, hQ⟩ := lw_walk l hl b xs p e ha hc hk s m args below hf ((Spec.applies_iff_loose hf).mp happ).1 hP trivial
  exact ⟨k, o, h1, h2, h3, hQ⟩
theorem lw_frame {s t : State} {o : Outcome} {args : Array Value} (h : Framed s o t [] 601024 7293034) :
    Framed s o t (fieldLocs frame_1_writes args s ++ arrayLocs frame_1_arrays args s ++ staticLocs frame_1_statics s) 601024 7293034 := h
theorem lw_limb (L : Cond) (hL : ∀ (args : Array Value) (s t : State), L.after args s (.returned (some (.int 1))) t = true) :
    ArmFor flags0 classFile x code maxLocals ret World_1 tables_1 room_1 Calls_1 rest_1 Pre_1
      (fun tb e a s o t => postC L tb e a s o t ∧ Framed s o t (fieldLocs frame_1_writes a s ++ arrayLocs frame_1_arrays a s ++ staticLocs frame_1_statics s) 601024 7293034) := by
  intro l hfl _ _ p e ha hc hk s m args below hf hfit hheap happ hpre
  have hl : l.stackTraces = false := by
    unfold Launch.stackTraces
    rw [hfl]
    decide +kernel
  obtain ⟨k, o, h1, h2, h3, rfl, hF⟩ := lw_comes l hl p e ha hc hk s m args below hf hfit hheap happ hpre
  exact ⟨k, _, h1, h2, h3, hL args s _, lw_frame hF⟩
theorem i_vc : Claimed_1_1 ∧ Claimed_1_2 := ⟨lw_limb limb_1_1 (fun args s t => by simp [limb_1_1, Cond.after, Cond.holds, Cond.value]), lw_limb limb_1_2 (fun args s t => Cond.after_iff.mpr (by
  first | (rw [show limb_1_2 = Cond.eq .result (.int 1) from rfl, Cond.eq_ints (x := 1) (y := 1) rfl rfl]; simp; done) | (simp [limb_1_2, Cond.value, Term.eval]; done)))⟩
