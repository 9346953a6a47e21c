/-! Constructors: worlds that grow. -/
section CN
variable {p : Program} {l : Launch} {e : Env} {R : Room} {s : State} {m : MethodId} {args : Array Value} {below : List Frame} {meth : Method} {c : Code} {D : va_G} {T : mx_T} {A : Nat → Prop} {Q : State → Prop} {la : Array Slot} {ws : va_W} {pc cells slots : Nat} {st : List Value} {Y Y' : mx_Y} {fl : mx_F} {tab : mx_B} {adS : Nat → Nat}
/-- a point of a body, with the world ws -/
def cn_W (p : Program) (l : Launch) (e : Env) (R : Room) (s : State) (m : MethodId) (args : Array Value) (below : List Frame) (meth : Method) (c : Code) (D : va_G) (A : Nat → Prop) (Q : State → Prop) (la : Array Slot) (ws : va_W) (pc : Nat) (st : List Value) (cells slots : Nat) : Prop :=
  ∀ (H : Heap) (locs : List Loc), va_P D vwCl ws H → va_D A ws → va_S A s.heap H locs → W p l e R s m args below meth c H locs cells slots Q (F0 m pc la st)
/-- the class of arrays of arrays of ints -/
def cn_AO (U : State) : Prop := (Cond.arrayOver (.array .int)).before #[] U = true
theorem cn_AO.moved {U U' : State} (hal : U.vm.Alike U'.vm) (h : cn_AO U) : cn_AO U' := by
  unfold cn_AO at h ⊢
  simp only [Cond.before, Cond.holds, Cond.value] at h ⊢
  rw [hal.findClass]
  cases hf : U.vm.findClass (FieldType.array .int).toString with
  | none => rw [hf] at h; simp at h
  | some comp =>
    rw [hf] at h
    simp only [Option.bind_some] at h ⊢
    rw [hal.findIdx_congr _ (fun _ _ _ _ => rfl)]
    generalize hF : (U.vm.classes.findIdx? fun (x : Class) => match x.kind with | .array component _ => component == comp | _ => false) = fi at h ⊢
    cases fi with
    | none => simp at h
    | some c =>
      simp only [Option.bind_some] at h ⊢
      cases hk : U.vm.classes[c]? with
      | none => rw [hk] at h; simp at h
      | some k =>
        obtain ⟨k', hk', ek⟩ := hal.2.2 _ _ hk
        rw [hk] at h
        rw [hk', hal.findClass]
        have ekind : k'.kind = k.kind := by rw [ek]
        simp only [Option.map_some] at h ⊢
        rw [ekind]
        exact h
/-- what holds all through it -/
def cn_C (p : Program) (s : State) (m : MethodId) (args : Array Value) (c : Code) (D : va_G) (T : mx_T) (adS : Nat → Nat) (A : Nat → Prop) (Y : mx_Y) : Prop :=
  CallFix p m c (mx_bs Y) (mx_ml Y) s args (mx_ws Y) (mx_ow Y) ∧ (∀ q, s.heap.size ≤ q → A q) ∧ va_K D vwCl (mx_tys T) s ∧ mx_Z ([], []) adS A s s.heap ∧ cn_AO s
theorem cn_dc (hok : mx_ok Y fl tab) {i : Instr} {n : Nat} (h : tab.lookup pc = some (i, n)) : decode (mx_bs Y) pc = .ok (i, n) := by
  have h2 := hok.1 _ (mx_lk _ _ _ h)
  dsimp only at h2
  exact h2
theorem cn_ald (hok : mx_ok Y fl tab) (hC : cn_C p s m args c D T adS A Y) {h0 : Nat} (hla : la[0]? = some (.val (.ref h0))) (hd : tab.lookup pc = some (.aload_n 0, 1)) (kk : cn_W p l e R s m args below meth c D A Q la ws (pc + 1) (.ref h0 :: st) cells slots) : cn_W p l e R s m args below meth c D A Q la ws pc st cells slots := by
  intro H locs hP hD hS
  obtain ⟨⟨hx, hb, -⟩, -⟩ := hC
  exact lv_aload_n hx hb (cn_dc hok hd) rfl hla (kk H locs hP hD hS)
theorem cn_bip (hok : mx_ok Y fl tab) (hC : cn_C p s m args c D T adS A Y) {v : Int} {n : Int32} (hv : (Int8.ofInt v).toInt32 = n) (hd : tab.lookup pc = some (.bipush v, 2)) (kk : cn_W p l e R s m args below meth c D A Q la ws (pc + 2) (.int n :: st) cells slots) : cn_W p l e R s m args below meth c D A Q la ws pc st cells slots := by
  intro H locs hP hD hS
  obtain ⟨⟨hx, hb, -⟩, -⟩ := hC
  exact lv_bipush hx hb (cn_dc hok hd) hv (kk H locs hP hD hS)
theorem cn_sip (hok : mx_ok Y fl tab) (hC : cn_C p s m args c D T adS A Y) {v : Int} {n : Int32} (hv : (Int16.ofInt v).toInt32 = n) (hd : tab.lookup pc = some (.sipush v, 3)) (kk : cn_W p l e R s m args below meth c D A Q la ws (pc + 3) (.int n :: st) cells slots) : cn_W p l e R s m args below meth c D A Q la ws pc st cells slots := by
  intro H locs hP hD hS
  obtain ⟨⟨hx, hb, -⟩, -⟩ := hC
  exact lv_sipush hx hb (cn_dc hok hd) hv (kk H locs hP hD hS)
theorem cn_dup (hok : mx_ok Y fl tab) (hC : cn_C p s m args c D T adS A Y) {q : Nat} (hd : tab.lookup pc = some (.dup, 1)) (kk : cn_W p l e R s m args below meth c D A Q la ws (pc + 1) (.ref q :: .ref q :: st) cells slots) : cn_W p l e R s m args below meth c D A Q la ws pc (.ref q :: st) cells slots := by
  intro H locs hP hD hS
  obtain ⟨⟨hx, hb, -⟩, -⟩ := hC
  exact lv_dup hx hb (cn_dc hok hd) rfl (kk H locs hP hD hS)
theorem cn_obj (hok : mx_ok Y fl tab) (hC : cn_C p s m args c D T adS A Y) {a idx : Nat} (hd : tab.lookup pc = some (.invokespecial idx, 3)) (w1 : Cond.methodLink (mx_ow Y) idx Lib.objectInit ∈ mx_WS) (w2 : Cond.instanceMethod Lib.objectInit ∈ mx_WS) (w3 : Cond.code Lib.objectInit ⟨#[0xb1]⟩ 1 none ∈ mx_WS) (hsz : la.size = mx_ml Y) (hf : 1 ≤ R.frames) (hlo : 12 ≤ R.locals)
    (kk : cn_W p l e R s m args below meth c D A Q la ws (pc + 3) [] cells slots) : cn_W p l e R s m args below meth c D A Q la ws pc [.ref a] cells slots := by
  intro H locs hP hD hS
  obtain ⟨⟨hx, hb, hml, hown, hts⟩, -⟩ := hC
  refine W.objInit hx hb hown (hts _ (hok.2.2 _ w1)) (hts _ (hok.2.2 _ w2)) (hts _ (hok.2.2 _ w3)) rfl (by rw [hml]; exact hsz) rfl (cn_dc hok hd) hf ?_ (kk H locs hP hD hS)
  show 2 * 0 + 0 + 12 ≤ R.locals
  omega
theorem cn_cA {ty : FieldType} {cA : ClassId} {k : Nat} (hK : va_K D vwCl (mx_tys T) s) {c0 : ClassId} (hk : (mx_tys T)[k]? = some (c0, ty)) (hK1 : va_K D vwCl (mx_tys T ++ [(cA, ty)]) s) (ht : ∀ C, ty ≠ .object C) : cA = c0 := by
  have h1 := (hK.2 k _ hk).2
  have h2 := (hK1.2 4 (cA, ty) rfl).2
  cases ty with
  | object C => exact absurd rfl (ht C)
  | _ =>
    have e1 : s.vm.findClass _ = some c0 := h1
    have e2 : s.vm.findClass _ = some cA := h2
    exact Option.some.inj (e2.symm.trans e1)
theorem cn_newi (hok : mx_ok Y fl tab) (hC : cn_C p s m args c D T adS A Y) {n : Int32} {N : Nat} (hd : tab.lookup pc = some (.newarray .int, 2)) (w : Cond.arrayClass .int ∈ mx_WS) (hN : n = nI N) (hN2 : N ≤ 100000) (hc1 : cells + 1 ≤ R.cells) (hs1 : slots + N ≤ R.slots)
    (kk : ∀ q, cn_W p l e R s m args below meth c D A Q la (ws ++ [(q, .inl (T.1, N, .inl (fun _ => 0)))]) (pc + 2) (.ref q :: st) (cells + 1) (slots + N)) : cn_W p l e R s m args below meth c D A Q la ws pc (.int n :: st) cells slots := by
  intro H locs hP hD hS
  obtain ⟨⟨hx, hb, hml, hown, hts⟩, hA, hK, -⟩ := hC
  subst hN
  refine va_newa (atype := .int) (a0 := (N, .inl (fun _ => 0))) hx hb (hts _ (hok.2.2 _ w)) rfl hK hP hD hS hA (fun cA => rfl) (nI_pos (by omega)) (nI_clamp (by omega)) (by show N * 4 ≤ _; omega) hc1 hs1 (cn_dc hok hd) (fun q cA H1 hK1 hP1 hD1 hS1 => ?_)
  obtain rfl := cn_cA (k := 0) hK rfl hK1 (fun C y => by cases y)
  exact kk q H1 locs hP1 hD1 hS1
theorem cn_newz (hok : mx_ok Y fl tab) (hC : cn_C p s m args c D T adS A Y) {n : Int32} {N : Nat} (hd : tab.lookup pc = some (.newarray .boolean, 2)) (w : Cond.arrayClass .boolean ∈ mx_WS) (hN : n = nI N) (hN2 : N ≤ 100000) (hc1 : cells + 1 ≤ R.cells) (hs1 : slots + N ≤ R.slots)
    (kk : ∀ q, cn_W p l e R s m args below meth c D A Q la (ws ++ [(q, .inl (T.2.2.2, N, .inl (fun _ => 0)))]) (pc + 2) (.ref q :: st) (cells + 1) (slots + N)) : cn_W p l e R s m args below meth c D A Q la ws pc (.int n :: st) cells slots := by
  intro H locs hP hD hS
  obtain ⟨⟨hx, hb, hml, hown, hts⟩, hA, hK, -⟩ := hC
  subst hN
  refine va_newa (atype := .boolean) (a0 := (N, .inl (fun _ => 0))) hx hb (hts _ (hok.2.2 _ w)) rfl hK hP hD hS hA (fun cA => rfl) (nI_pos (by omega)) (nI_clamp (by omega)) (by show N * 1 ≤ _; omega) hc1 hs1 (cn_dc hok hd) (fun q cA H1 hK1 hP1 hD1 hS1 => ?_)
  obtain rfl := cn_cA (k := 3) hK rfl hK1 (fun C y => by cases y)
  exact kk q H1 locs hP1 hD1 hS1
theorem cn_newl (hok : mx_ok Y fl tab) (hC : cn_C p s m args c D T adS A Y) {n : Int32} {N : Nat} (hd : tab.lookup pc = some (.newarray .long, 2)) (w : Cond.arrayClass .long ∈ mx_WS) (hN : n = nI N) (hN2 : N ≤ 100000) (hc1 : cells + 1 ≤ R.cells) (hs1 : slots + N ≤ R.slots)
    (kk : ∀ q, cn_W p l e R s m args below meth c D A Q la (ws ++ [(q, .inl (T.2.2.1, N, .inr (.inl (fun _ => (0 : Int32).toInt64))))]) (pc + 2) (.ref q :: st) (cells + 1) (slots + N)) : cn_W p l e R s m args below meth c D A Q la ws pc (.int n :: st) cells slots := by
  intro H locs hP hD hS
  obtain ⟨⟨hx, hb, hml, hown, hts⟩, hA, hK, -⟩ := hC
  subst hN
  refine va_newa (atype := .long) (a0 := (N, .inr (.inl (fun _ => (0 : Int32).toInt64)))) hx hb (hts _ (hok.2.2 _ w)) rfl hK hP hD hS hA (fun cA => rfl) (nI_pos (by omega)) (nI_clamp (by omega)) (by show N * 8 ≤ _; omega) hc1 hs1 (cn_dc hok hd) (fun q cA H1 hK1 hP1 hD1 hS1 => ?_)
  obtain rfl := cn_cA (k := 2) hK rfl hK1 (fun C y => by cases y)
  exact kk q H1 locs hP1 hD1 hS1
theorem cn_putF (hok : mx_ok Y fl tab) (hC : cn_C p s m args c D T adS A Y) (hin : meth.name = "<init>") {idx ci k q0 a q N : Nat} {fs : List Value} {C : String} {T0 : u_T} {ty : FieldType} (hd : tab.lookup pc = some (.putfield idx, 3)) (hf : fl.lookup idx = some (ci, k, 0)) (hT : vwCl[ci]? = some (C, T0, N)) (hfin : (T0 k).2.2.2 = true) (hC0 : C = mx_ow Y) (he : ws[q0]? = some (a, .inr (ci, fs))) (hp : parseFieldDescriptor (T0 k).2.2.1 = some ty) (hn : narrow ty (.ref q) = .ref q) (hfi : fits ty (.ref q) = true) (hl : k < fs.length)
    (kk : cn_W p l e R s m args below meth c D A Q la (ws.set q0 (a, .inr (ci, fs.set k (.ref q)))) (pc + 3) st cells slots) : cn_W p l e R s m args below meth c D A Q la ws pc (.ref q :: .ref a :: st) cells slots := by
  intro H locs hP hD hS
  obtain ⟨⟨hx, hb, hml, hown, hts⟩, hA, hK, -⟩ := hC
  obtain ⟨C1, T1, N1, q1, q2, q3, q4, q5, -⟩ := mx_fo_s (List.all_eq_true.mp hok.2.1 _ (mx_lk _ _ _ hf))
  dsimp only at q1 q2 q3 q4 q5
  obtain ⟨rfl, rfl, rfl⟩ : C1 = C ∧ T1 = T0 ∧ N1 = N := by
    have := Option.some.inj (q1.symm.trans hT)
    simp only [Prod.mk.injEq] at this
    exact this
  obtain ⟨ty0, hty, hnm⟩ := mx_ty _ _ _ _ q1
  exact va_putF hx hb hts (fun w hw => hok.2.2 w (q5 w hw)) ty0 hty hnm hown hK hP hD hS q0 he q1 k q2 (hts _ (hok.2.2 _ q4)) (fun x hx => by rw [q3] at hx; exact hx) hfin hin (by rw [q3]; exact hC0) hp hn hfi hl (cn_dc hok hd) (fun H1 locs1 a1 a2 a3 => kk H1 locs1 a1 a2 a3)
theorem cn_new (hok : mx_ok Y fl tab) (hC : cn_C p s m args c D T adS A Y) {idx ci N : Nat} {C : String} {T0 : u_T} {fs : List Value} (hd : tab.lookup pc = some (.new idx, 3)) (w1 : Cond.classLink (mx_ow Y) idx C ∈ mx_WS) (w2 : Cond.instantiable C N ∈ mx_WS) (w3 : Cond.initialized C ∈ mx_WS) (hT : vwCl[ci]? = some (C, T0, N)) (hu : ∀ w ∈ u_ws C T0 N, w ∈ mx_WS) (hfs : ∀ j, j < N → (parseFieldDescriptor (T0 j).2.2.1).map defaultValue = some (vp_V fs j)) (hc1 : cells + 1 ≤ R.cells) (hs1 : slots + N ≤ R.slots)
    (kk : ∀ q, cn_W p l e R s m args below meth c D A Q la (ws ++ [(q, .inr (ci, fs))]) (pc + 3) (.ref q :: st) (cells + 1) (slots + N)) : cn_W p l e R s m args below meth c D A Q la ws pc st cells slots := by
  intro H locs hP hD hS
  obtain ⟨⟨hx, hb, hml, hown, hts⟩, hA, hK, -⟩ := hC
  obtain ⟨ty0, hty, hnm⟩ := mx_ty _ _ _ _ hT
  refine va_new (ci := ci) (fs := fs) hx hb hts (fun w hw => hok.2.2 w (hu w hw)) ty0 hty hown (hts _ (hok.2.2 _ w1)) (hts _ (hok.2.2 _ w2)) (hts _ (hok.2.2 _ w3)) hK hP hD hS hA hT (fun j hj => ?_) hc1 hs1 (cn_dc hok hd) (fun q H1 hP1 hD1 hS1 => kk q H1 locs hP1 hD1 hS1)
  have := hfs j hj
  rw [hty j hj] at this
  exact Option.some.inj this
/-- a constructor's contract: the object at h0 (class ci, fields fs), nq cells are made, the world behind it is out -/
def cn_Pc (D : va_G) (T : mx_T) (adS : Nat → Nat) (ci h0 sz : Nat) (fs : List Value) : Array Value → State → Prop := va_Pc [.ref h0] (fun U => U.heap.size = sz ∧ va_P D vwCl [(h0, .inr (ci, fs))] U.heap ∧ va_K D vwCl (mx_tys T) U ∧ va_D (fun _ => True) [(h0, .inr (ci, fs))] ∧ mx_Z ([], []) adS (va_A [(h0, .inr (ci, fs))] sz) U U.heap ∧ cn_AO U)
def cn_Qc (D : va_G) (T : mx_T) (ci h0 sz : Nat) (fs : List Value) (nq : Nat) (out : mx_T → Nat → List Nat → va_W) : Array Value → State → Outcome → State → Prop := va_Qv (fun qs : List Nat => qs.length = nq) (fun qs t => va_P D vwCl (out T h0 qs) t.heap ∧ va_D (va_A [(h0, .inr (ci, fs))] sz) (out T h0 qs)) (va_A [(h0, .inr (ci, fs))] sz)
def cn_rm (d mc ms : Nat) : Room := { frames := mx_fr d, cells := mc, slots := ms, locals := mx_lo d }
def cn_Ct (l : Launch) (Y : mx_Y) (d ci : Nat) (fs : List Value) (mc ms nq : Nat) (out : mx_T → Nat → List Nat → va_W) : Prop :=
  ∀ (D : va_G) (T : mx_T) (adS : Nat → Nat) (h0 sz : Nat), Met l (mx_nm Y) (mx_ws Y) (cn_rm d mc ms) (cn_Pc D T adS ci h0 sz fs) (cn_Qc D T ci h0 sz fs nq out) mc ms (va_A [(h0, .inr (ci, fs))] sz)
theorem cn_blind {ci h0 sz : Nat} {fs : List Value} : FrameBlind (cn_Pc D T adS ci h0 sz fs) := by
  intro a2 U g mk ⟨q0, q1, q2, q3, q4, q5, q6⟩
  exact ⟨q0, q1, q2, va_K.moved (u := U) (U := U.calling g mk a2) (Vm.Alike.refl U.vm) q3, q4, mx_Z.warm (s := U) (U := U.calling g mk a2) (State.WarmedH.refl U) q5, cn_AO.moved (U := U) (U' := U.calling g mk a2) (Vm.Alike.refl U.vm) q6⟩
/-- the call of a constructor: by a nest mate's word, or by an ordinary one -/
theorem cn_call (hok : mx_ok Y fl tab) (hC : cn_C p s m args c D T adS A Y) {d ci mc ms nq idx q k : Nat} {fs : List Value} {out : mx_T → Nat → List Nat → va_W} {wr : va_W} (hM : cn_Ct l Y' d ci fs mc ms nq out) (hd : tab.lookup pc = some (.invokespecial idx, 3))
    (hlk : Cond.methodLinkNest (mx_ow Y) idx (mx_nm Y') "PegBoards" ∈ mx_NW ∨ Cond.methodLink (mx_ow Y) idx (mx_nm Y') ∈ mx_WS) (w1 : Cond.instanceMethod (mx_nm Y') ∈ mx_WS) (hc2 : mx_cdb Y' 0 = true) (hw : mx_ws Y' = Cond.code (mx_nm Y') (mx_bs Y') (mx_ml Y') none :: mx_WS) (hr0 : mx_rt Y' = none) (hnm : (mx_nm Y').name = "<init>")
    (isR : List Nat) (hk : ws[k]? = some (q, .inr (ci, fs))) (hR : isR.map (fun i => ws[i]?) = wr.map some) (hnd : va_nd isR = true) (hdis : ∀ i ∈ isR, i ∉ [k]) (hsz : la.size = mx_ml Y) (hst : Nat.ble ((st.map fun v => v.category).sum) 8 = true) (hf : mx_fr d + 1 ≤ R.frames) (hlo : 8 + (mx_ml Y' + 11) + mx_lo d ≤ R.locals) (hc1 : cells + mc ≤ R.cells) (hs1 : slots + ms ≤ R.slots)
    (kk : ∀ qs : List Nat, qs.length = nq → cn_W p l e R s m args below meth c D A Q la (wr ++ out T q qs) (pc + 3) st (cells + mc) (slots + ms)) : cn_W p l e R s m args below meth c D A Q la ws pc (.ref q :: st) cells slots := by
  intro H locs hP hD hS
  obtain ⟨⟨hx, hb, hml, hown, hts⟩, hA, hK, hZ, hO⟩ := hC
  have hws : mx_ws Y' = Cond.code (mx_nm Y') (mx_bs Y') (mx_ml Y') (mx_rt Y') :: mx_WS := by rw [hr0]; exact hw
  obtain ⟨v1, v2, v3, v4⟩ := mx_cd_s hc2 hws
  have hPc := hP.sub (ws' := [(q, .inr (ci, fs))]) [k] (by simp [hk])
  have hDc := hD.sub (ws' := [(q, .inr (ci, fs))]) [k] rfl (by simp [hk])
  have hFc := va_free (wc := [(q, .inr (ci, fs))]) hD hS hA [k] (by simp [hk])
  have hpre : PreS s H (cn_Pc D T adS ci q H.size fs) [.ref q] := ⟨cn_blind, fun U hU hW => ⟨rfl, by rw [hU], by rw [hU]; exact hPc, va_K.moved hW.alike hK, hDc.weaken (fun _ _ _ _ => trivial), by rw [hU]; exact mx_Z.warm hW (mx_Z.narrow (mx_Z.kept hZ hS.1 hS.2.1) hFc), cn_AO.moved hW.alike hO⟩⟩
  have hstk : 2 * (F0 m pc la (.ref q :: st)).monitorRoom + (st.map fun v => v.category).sum ≤ 8 := by
    show 2 * 0 + _ ≤ 8
    have := Nat.le_of_ble_eq_true hst
    omega
  have hrun : va_Run p l e R s m args below meth c H locs cells slots mc ms (F0 m pc la (.ref q :: st)) st (cn_Qc D T ci q H.size fs nq out (Value.ref q :: []).toArray) (va_A [(q, .inr (ci, fs))] H.size) := by
    rcases hlk with hlk | hlk
    · exact va_runIN (bytes := mx_bs Y') (maxL := mx_ml Y') (n := 0) (host := "PegBoards") (As := []) ⟨hx, hb, hml, hown, hts⟩ (hM D T adS q H.size) ⟨va_cnB 0 hts (mx_gi hok.2.2 v1) hw rfl rfl (hZ.1 _ hlk) (hts _ (hok.2.2 _ v2)) v3 ⟨hf, hlo⟩, hnm, hts _ (hok.2.2 _ w1)⟩ hpre rfl rfl hsz rfl hstk (cn_dc hok hd) ⟨hc1, hs1⟩
    · exact va_runI (bytes := mx_bs Y') (maxL := mx_ml Y') (n := 0) (As := []) ⟨hx, hb, hml, hown, hts⟩ (hM D T adS q H.size) (cwI 0 hts (mx_gi hok.2.2 v1) hw rfl rfl (hts _ (hok.2.2 _ v2)) (hts _ (hok.2.2 _ hlk)) (hts _ (hok.2.2 _ w1)) hnm v3 ⟨hf, hlo⟩) hpre rfl rfl hsz rfl hstk (cn_dc hok hd) ⟨hc1, hs1⟩
  refine va_callv hrun hS (fun q9 _ h => hFc q9 h) hFc (fun qs t H1 locs1 ht hvm hq hB hz1 hk1 hS1 => ?_)
  obtain ⟨hP1, hD1⟩ := hB
  rw [ht] at hP1
  obtain ⟨hP2, hD2⟩ := va_join (wc := [(q, .inr (ci, fs))]) (wr := wr) (w1 := out T q qs) hP hD [k] isR (by simp [hk]) hR hnd hdis hk1 hFc hP1 hD1
  exact kk qs hq H1 locs1 hP2 hD2 hS1
/-- a constructor's contract out of a walk of its body -/
theorem cn_of {d ci mc ms nq : Nat} {fs : List Value} {out : mx_T → Nat → List Nat → va_W} (hy : plainFor (mx_nm Y) = true ∧ mx_ow Y = (mx_nm Y).cls ∧ (mx_nm Y).name = "<init>" ∧ mx_ml Y = 1 ∧ mx_rt Y = none) (hw : mx_ws Y = Cond.code (mx_nm Y) (mx_bs Y) (mx_ml Y) (mx_rt Y) :: mx_WS)
    (body : ∀ (p : Program) (e : Env) (s : State) (m : MethodId) (args : Array Value) (below : List Frame) (meth : Method) (c : Code) (D : va_G) (T : mx_T) (adS : Nat → Nat) (A : Nat → Prop) (h0 : Nat) (la : Array Slot), A = va_A [(h0, .inr (ci, fs))] s.heap.size → cn_C p s m args c D T adS A Y → meth.name = "<init>" → meth.sig.returnType = none → meth.locks = false → la.size = 1 → la[0]? = some (.val (.ref h0)) → c.exceptionTable.toList = [] →
      cn_W p l e (cn_rm d mc ms) s m args below meth c D A (MQ below (cn_Qc D T ci h0 s.heap.size fs nq out) args s mc ms A) la [(h0, .inr (ci, fs))] 0 [] 0 0) : cn_Ct l Y d ci fs mc ms nq out := by
  intro D T adS h0 sz
  obtain ⟨hy1, hy2, hy3, hy4, hy5⟩ := hy
  have hv : vx_Met l (mx_nm Y) (mx_ws Y) (cn_rm d mc ms) (cn_Pc D T adS ci h0 sz fs) (cn_Qc D T ci h0 sz fs nq out) (fun _ _ _ => False) mc ms (va_A [(h0, .inr (ci, fs))] sz) := by
    refine mx_ofW (cc := mx_bs Y) (maxL := mx_ml Y) (ret := mx_rt Y) hy1 hw ?_
    intro p e s m args below meth c s₁ B hml htb hv
    obtain ⟨rfl, rfl, hP, hK, hD0, hZ, hO⟩ := hv
    have hts := atoms_spec (ws := mx_ws Y) B.pre
    have hown : s.vm.findClass (mx_ow Y) = some m.cls := by rw [hy2]; exact findClass_of_methodNamed B.named
    have hin : meth.name = "<init>" := (name_of_methodNamed B.named B.method).1.trans hy3
    have hl0 := lv_entry ([.ref h0]) (n := mx_ml Y) (by rw [hy4]; exact Nat.le_refl 1)
    have hexc : c.exceptionTable.toList = [] := by
      cases hq : c.exceptionTable.toList with
      | nil => rfl
      | cons x t => exact (htb x (by rw [hq]; exact List.mem_cons_self)).elim
    rw [lg_entry_eq]
    refine vx_ret ?_
    exact body p e s m _ below meth c D T adS _ h0 _ rfl ⟨⟨B.exec, B.bytes, hml, hown, hts⟩, fun q h => Or.inr h, hK, hZ, hO⟩ hin (B.returns.trans hy5) B.notSynchronized (by rw [hl0.1]; exact hy4) (lv_at hl0 0 rfl) hexc s.heap [] hP hD0.self va_S.rf
  refine MetFree.mono hv (fun _ _ h => h) (fun _ _ _ _ _ h => h) (fun a2 s2 o t _ hq => ?_)
  rcases hq with hq | ⟨q, rfl, E, ce, L, hX, -⟩
  · exact hq
  · exact hX.elim
theorem cn_eq {ws' : va_W} {pc' cells' slots' : Nat} (h1 : ws = ws') (h2 : pc = pc') (h3 : cells = cells') (h4 : slots = slots') (kk : cn_W p l e R s m args below meth c D A Q la ws' pc' st cells' slots') : cn_W p l e R s m args below meth c D A Q la ws pc st cells slots := by
  subst h1 h2 h3 h4
  exact kk
theorem cn_ret (hok : mx_ok Y fl tab) {ci mc ms nq h0 : Nat} {fs : List Value} {out : mx_T → Nat → List Nat → va_W} (hA : A = va_A [(h0, .inr (ci, fs))] s.heap.size) (hC : cn_C p s m args c D T adS A Y) (hr : meth.sig.returnType = none) (hlk : meth.locks = false) (hd : tab.lookup pc = some (.return_, 1)) (qs : List Nat) (hq : qs.length = nq) (is : List Nat) (hnd : va_nd is = true) (his : is.map (fun i => ws[i]?) = (out T h0 qs).map some) (h1 : cells ≤ mc) (h2 : slots ≤ ms) :
    cn_W p l e R s m args below meth c D A (MQ below (cn_Qc D T ci h0 s.heap.size fs nq out) args s mc ms A) la ws pc [] cells slots := by
  intro H locs hP hD hS
  obtain ⟨⟨hx, hb, -⟩, -⟩ := hC
  have his2 : is.filterMap (fun i => ws[i]?) = out T h0 qs := by
    have : (is.map (fun i => ws[i]?)).filterMap id = ((out T h0 qs).map some).filterMap id := by rw [his]
    rw [List.filterMap_map, List.filterMap_map] at this
    simpa using this
  have hP9 := hP.sub (ws' := out T h0 qs) is his2
  have hD9 := hD.sub (ws' := out T h0 qs) is hnd his
  refine W.widen (k := mc) (n := ms) h1 h2 ?_
  exact W.vret hx hb hr (fun t ht hW => ⟨⟨qs, rfl, hq, by rw [ht]; exact hP9, by rw [← hA]; exact hD9⟩, by rw [← hA]; exact hS.F ht⟩) hS.2.2 (cn_dc hok hd) hlk
/-- an array of N arrays of K ints -/
def cn_mw (T : mx_T) (N K q : Nat) : va_W := (q, .inl (T.2.1, N, .inr (.inr (.inr (.inr (fun j => if j < N then some (q + 1 + j) else none)))))) :: (List.range N).map (fun j => (q + 1 + j, .inl (T.1, K, .inl (fun _ => 0))))
theorem cn_outer (c0 : ClassId) (N h0 : Nat) : ∀ i, Jvm.Free.Multi.outerC c0 N h0 i = arrV c0 N (fun j => if j < i then .ref (h0 + 1 + j) else .null)
  | 0 => by
    have : (fun j => if j < 0 then Value.ref (h0 + 1 + j) else .null) = fun _ => .null := by
      funext j
      exact if_neg (Nat.not_lt_zero j)
    rw [this]
    exact arrV_new c0 N .null
  | i + 1 => by
    rw [Jvm.Free.Multi.outerC, cn_outer c0 N h0 i, arrV_store]
    congr 1
    funext j
    unfold updV
    by_cases e : j = i
    · subst e
      rw [if_pos rfl, if_pos (by omega)]
    · rw [if_neg e]
      dsimp only
      by_cases h : j < i
      · rw [if_pos h, if_pos (by omega)]
      · rw [if_neg h, if_neg (by omega)]
theorem cn_mw_get {N K q k : Nat} {x : Nat × va_E} (h : (cn_mw T N K q)[k]? = some x) : k ≤ N ∧ x.1 = q + k ∧ (k = 0 → x = (q, .inl (T.2.1, N, .inr (.inr (.inr (.inr (fun j => if j < N then some (q + 1 + j) else none))))))) ∧ ∀ j, k = j + 1 → j < N ∧ x = (q + 1 + j, .inl (T.1, K, .inl (fun _ => 0))) := by
  unfold cn_mw at h
  cases k with
  | zero =>
    simp only [List.getElem?_cons_zero, Option.some.injEq] at h
    subst h
    exact ⟨Nat.zero_le _, rfl, fun _ => rfl, fun j y => by omega⟩
  | succ k =>
    simp only [List.getElem?_cons_succ, List.getElem?_map, Option.map_eq_some_iff] at h
    obtain ⟨j, hj, rfl⟩ := h
    have h1 := (List.getElem?_eq_some_iff.mp hj).1
    rw [List.length_range] at h1
    have h2 : j = k := by
      have := (List.getElem?_eq_some_iff.mp hj).2
      rw [List.getElem_range] at this
      exact this.symm
    subst h2
    refine ⟨by omega, by show q + 1 + j = q + (j + 1); omega, fun y => by omega, fun j' y => ?_⟩
    have : j' = j := by omega
    subst this
    exact ⟨h1, rfl⟩
theorem cn_multi (hok : mx_ok Y fl tab) (hC : cn_C p s m args c D T adS A Y) {n k : Int32} {N K idx : Nat} (hd : tab.lookup pc = some (.multianewarray idx 2, 4)) (w1 : Cond.classLink (mx_ow Y) idx ("[" ++ (FieldType.array .int).toString) ∈ mx_WS) (w3 : Cond.arrayClass .int ∈ mx_WS) (hN : n = nI N) (hK : k = nI K) (hN2 : N ≤ 1000) (hK2 : K ≤ 1000) (hc1 : cells + (1 + N) ≤ R.cells) (hs1 : slots + (N + N * K) ≤ R.slots)
    (kk : ∀ q, cn_W p l e R s m args below meth c D A Q la (ws ++ cn_mw T N K q) (pc + 4) (.ref q :: st) (cells + 1 + N) (slots + N + N * K)) : cn_W p l e R s m args below meth c D A Q la ws pc (.int k :: .int n :: st) cells slots := by
  intro H locs hP hD hS
  obtain ⟨⟨hx, hb, hml, hown, hts⟩, hA, hKK, hZ, hO⟩ := hC
  subst hN hK
  have eN := nI_clamp (n := N) (by omega)
  have eK := nI_clamp (n := K) (by omega)
  intro T0 hT X
  have hda := cn_dc hok hd
  rw [← hb] at hda
  subst hT
  obtain ⟨vm₁, cA, comp, hW, hfA, hfC, hO1, hI1, X1, step⟩ := X.multianewarray2F hx (own := mx_ow Y) (index := idx) (ty := .int) hown (hts _ (hok.2.2 _ w1)) hO (hts _ (hok.2.2 _ w3)) (g := F0 m pc la (.int (nI K) :: .int (nI N) :: st)) rfl hda rfl (nI_pos (by omega)) (nI_pos (by omega)) (by rw [eN]; omega) (by rw [eK]; show K * 4 ≤ _; omega) (by rw [eK]; omega) rfl rfl (by rw [eN]; exact hc1) (by rw [eN, eK]; exact hs1)
  have e1 : cA = T.2.1 := Option.some.inj (hfA.symm.trans (hKK.2 1 (T.2.1, .array .int) rfl).2)
  have e2 : comp = T.1 := Option.some.inj (hfC.symm.trans (hKK.2 0 (T.1, .int) rfl).2)
  subst e1 e2
  rw [eN, eK] at X1 step
  have f1 := Jvm.Free.Multi.fill_facts (T0.setVm vm₁) T.2.1 T.1 N K (defaultValue .int) N
  have f2 : ∀ a, a < T0.heap.size → (Jvm.Free.Multi.fill (T0.setVm vm₁) T.2.1 T.1 N K (defaultValue .int) N).heap[a]? = T0.heap[a]? := fun a ha => Jvm.Free.Multi.fill_old (T0.setVm vm₁) T.2.1 T.1 N K (defaultValue .int) (a := a) ha N
  have f3 : ∀ j, j < N → (Jvm.Free.Multi.fill (T0.setVm vm₁) T.2.1 T.1 N K (defaultValue .int) N).heap[T0.heap.size + 1 + j]? = some (Jvm.Free.Multi.innerC T.1 K (defaultValue .int)) := fun j hj => Jvm.Free.Multi.fill_inner (T0.setVm vm₁) T.2.1 T.1 N K (defaultValue .int) N j hj
  have f4 : (Jvm.Free.Multi.fill (T0.setVm vm₁) T.2.1 T.1 N K (defaultValue .int) N).heap.size = T0.heap.size + 1 + N := f1.1
  have f5 : (Jvm.Free.Multi.fill (T0.setVm vm₁) T.2.1 T.1 N K (defaultValue .int) N).heap[T0.heap.size]? = some (Jvm.Free.Multi.outerC T.2.1 N T0.heap.size N) := f1.2.1
  generalize Jvm.Free.Multi.fill (T0.setVm vm₁) T.2.1 T.1 N K (defaultValue .int) N = Z at *
  have hP1 : va_P D vwCl (ws ++ cn_mw T N K T0.heap.size) Z.heap := by
    refine (hP.kept (fun k x hx => f2 x.1 ((hP k x hx).lt))).app (fun k x hx => ?_)
    obtain ⟨g1, g2, g3, g4⟩ := cn_mw_get hx
    cases k with
    | zero =>
      rw [g3 rfl]
      show Z.heap[T0.heap.size]? = some (vp_cell _ _)
      rw [f5, cn_outer, vp_cell_q]
      congr 2
      funext j
      by_cases h : j < N
      · rw [if_pos h, if_pos h]; rfl
      · rw [if_neg h, if_neg h]; rfl
    | succ k =>
      obtain ⟨g5, g6⟩ := g4 k rfl
      rw [g6]
      show Z.heap[T0.heap.size + 1 + k]? = some (vp_cell _ _)
      rw [f3 k g5, vp_cell_i]
      exact congrArg some (arrV_new T.1 K (.int 0))
  have hD1 : va_D A (ws ++ cn_mw T N K T0.heap.size) := by
    refine va_D.app hD ⟨fun i j x y hx hy e => ?_, fun k x hx => ?_⟩ (fun i j x y hx hy e => ?_)
    · have := (cn_mw_get hx).2.1
      have := (cn_mw_get hy).2.1
      omega
    · have := (cn_mw_get hx).2.1
      exact hA _ (by have := hS.1; omega)
    · have h1 := (hP i x hx).lt
      have h2 := (cn_mw_get hy).2.1
      omega
  have hS1 : va_S A s.heap Z.heap locs := ⟨by have := hS.1; omega, fun q h1 h2 => by rw [f2 q (by have := hS.1; omega)]; exact hS.2.1 q h1 h2, hS.2.2⟩
  obtain ⟨t, a1, b1⟩ := kk T0.heap.size Z.heap locs hP1 hD1 hS1 Z rfl X1
  exact ⟨t, step t a1, b1⟩
theorem cn_ico (hok : mx_ok Y fl tab) (hC : cn_C p s m args c D T adS A Y) {v : Int} {n : Int32} (hd : tab.lookup pc = some (.iconst v, 1)) (hv : Int32.ofInt v = n) (kk : cn_W p l e R s m args below meth c D A Q la ws (pc + 1) (.int n :: st) cells slots) : cn_W p l e R s m args below meth c D A Q la ws pc st cells slots := by
  intro H locs hP hD hS
  obtain ⟨⟨hx, hb, -⟩, -⟩ := hC
  exact lv_iconst hx hb (cn_dc hok hd) hv (kk H locs hP hD hS)
theorem cn_get (hok : mx_ok Y fl tab) (hC : cn_C p s m args c D T adS A Y) {idx ci k q0 a t0 : Nat} {fs : List Value} {v : Value} (hd : tab.lookup pc = some (.getfield idx, 3)) (hf : fl.lookup idx = some (ci, k, t0)) (he : ws[q0]? = some (a, .inr (ci, fs))) (hv : fs[k]? = some v) (kk : cn_W p l e R s m args below meth c D A Q la ws (pc + 3) (v :: st) cells slots) : cn_W p l e R s m args below meth c D A Q la ws pc (.ref a :: st) cells slots := by
  intro H locs hP hD hS
  obtain ⟨⟨hx, hb, hml, hown, hts⟩, hA, hK, -⟩ := hC
  obtain ⟨C1, T1, N1, q1, q2, q3, q4, q5, -⟩ := mx_fo_s (List.all_eq_true.mp hok.2.1 _ (mx_lk _ _ _ hf))
  dsimp only at q1 q2 q3 q4 q5
  exact va_get hx hb hts (fun w hw => hok.2.2 w (q5 w hw)) hown hK hP q0 he q1 k q2 (hts _ (hok.2.2 _ q4)) (fun x hx => by rw [q3] at hx; exact hx) hv (cn_dc hok hd) (kk H locs hP hD hS)
theorem ct_fill_1 (hl : l.stackTraces = false) (v : Int32) {M : mx_M} {d : Nat} : mx_Ct l ([.inl 64], []) mY_Ar_fill d 0 [.ref 0, .int v] M (mx_rV (pg_fill M 0 64 v)) := ct_Ar_fill hl (by decide) v (fun _ => rfl) (fun _ _ _ => rfl)
/-- Arrays.fill of an array of 64 ints with -1 -/
theorem cn_fill (hok : mx_ok Y fl tab) (hC : cn_C p s m args c D T adS A Y) (hl : l.stackTraces = false) {k q idx : Nat} {wr : va_W} (hd : tab.lookup pc = some (.invokestatic idx, 3)) (hc : mx_csb (mx_ow Y) idx mY_Ar_fill = true)
    (isR : List Nat) (hk : ws[k]? = some (q, .inl (T.1, 64, .inl (fun _ => 0)))) (hR : isR.map (fun i => ws[i]?) = wr.map some) (hnd : va_nd isR = true) (hdis : ∀ i ∈ isR, i ∉ [k]) (hsz : la.size = mx_ml Y) (hf : mx_fr 0 + 1 ≤ R.frames) (hlo : 8 + (mx_ml mY_Ar_fill + 11) + mx_lo 0 ≤ R.locals) (hc1 : cells + 0 ≤ R.cells) (hs1 : slots + 0 ≤ R.slots)
    (kk : cn_W p l e R s m args below meth c D A Q la (wr ++ [(q, .inl (T.1, 64, .inl (fun j => if j < 64 then -1 else 0)))]) (pc + 3) [] cells slots) : cn_W p l e R s m args below meth c D A Q la ws pc [.int (-1), .ref q] cells slots := by
  intro H locs hP hD hS
  obtain ⟨⟨hx, hb, hml, hown, hts⟩, hA, hK, hZ, hO⟩ := hC
  obtain ⟨v1, v2, v3, v4⟩ := mx_cd_s kd_Ar_fill rfl
  simp only [mx_csb, Bool.and_eq_true, decide_eq_true_eq] at hc
  obtain ⟨c1, c2⟩ := hc
  have hPc := hP.sub (ws' := [(q, .inl (T.1, 64, .inl (fun _ => 0)))]) [k] (by simp [hk])
  have hDc := hD.sub (ws' := [(q, .inl (T.1, 64, .inl (fun _ => 0)))]) [k] rfl (by simp [hk])
  have hFc := va_free (wc := [(q, .inl (T.1, 64, .inl (fun _ => 0)))]) hD hS hA [k] (by simp [hk])
  let ad : Nat → Nat := fun j => if j = 0 then q else adS j
  let M0 : mx_M := fun _ _ => 0
  have eA : ∀ x, mx_A ([.inl 64], []) ad H.size x → va_A [(q, .inl (T.1, 64, .inl (fun _ => 0)))] H.size x := by
    rintro x (⟨j, hj, rfl⟩ | hx)
    · have : j = 0 := by simp at hj; exact hj
      subst this
      exact Or.inl ⟨0, _, rfl⟩
    · exact Or.inr hx
  have hpre : ∀ U : State, U.heap = H → s.WarmedH U.vm → mx_Pc ([.inl 64], []) [.ref 0, .int (-1)] M0 D T ad H.size ([.ref q, .int (-1)] : List Value).toArray U := by
    intro U hU hW
    refine ⟨rfl, by rw [hU], by rw [hU]; exact hPc, va_K.moved hW.alike hK, fun i j hi hj _ => by simp at hi hj; omega, ?_⟩
    rw [hU]
    obtain ⟨z1, z2, z3, z4, z5, z6, z7⟩ := mx_Z.warm hW (mx_Z.narrow (mx_Z.kept hZ hS.1 hS.2.1) (fun x hx => hFc x (eA x hx)))
    refine ⟨z1, z2, z3, z4, z5, fun i nm hi => ?_, fun i q hi => by simp at hi⟩
    have := z6 i nm hi
    have e9 : ad (1000 + i) = adS (1000 + i) := if_neg (by omega)
    rw [e9]
    exact this
  have hg : GoodIn (mx_ws Y) (va_wsS (mx_ow Y) idx (mx_nm mY_Ar_fill) (mx_ws mY_Ar_fill)) := mx_gi hok.2.2 (fun w hw2 => by
    simp only [va_wsS, List.mem_append, List.mem_cons, List.not_mem_nil, or_false] at hw2
    rcases hw2 with (rfl | rfl | rfl) | hw2
    · exact c1
    · exact c2
    · exact v2
    · exact v1 w (by simpa using hw2))
  have hrun := va_runS (p := p) (l := l) (e := e) (R := R) (s := s) (m := m) (args := args) (below := below) (meth := meth) (c := c) (H := H) (locs := locs) (cells := cells) (slots := slots) (g := F0 m pc la [.int (-1), .ref q]) (rest := []) (bytes := mx_bs mY_Ar_fill) (maxL := mx_ml mY_Ar_fill) (ret := mx_rt mY_Ar_fill) (n := 2) (As := [.ref q, .int (-1)]) ⟨hx, hb, hml, hown, hts⟩ (mx_met (ct_fill_1 (d := 0) (M := M0) hl (-1)) (fun E M2 q => by obtain ⟨q1, -⟩ := q; cases q1) D T ad H.size) (va_cwS 2 hts hg rfl rfl rfl v3 ⟨hf, hlo⟩) ⟨mx_blind, hpre⟩ rfl rfl hsz rfl (by show 2 * 0 + 0 ≤ 8; omega) (cn_dc hok hd) ⟨hc1, hs1⟩
  intro Tt hT X
  obtain ⟨v0, st₀, t, T', L, h0, X', hL, e1, e2, ⟨⟨v, M2, hv, ⟨hq1, hq2⟩, hP'⟩, hF⟩, st⟩ := hrun Tt hT X
  subst hq2
  have hv2 : v = none := by cases hq1; rfl
  subst hv2
  have hv0 : v0 = none := by cases hv; rfl
  subst hv0
  obtain ⟨g1, g2, g3⟩ := vx_keep h0 e1 hS (fun x _ hx => hFc x (eA x hx)) (fun x hx => hFc x (eA x hx)) hL hF
  have hP1 : va_P D vwCl [(q, .inl (T.1, 64, .inl (fun j => if j < 64 then -1 else 0)))] T'.heap := by
    rw [e1]
    exact hP'
  have hk1 : ∀ x : Nat, x < H.size → ¬ va_A [(q, .inl (T.1, 64, .inl (fun _ => 0)))] H.size x → T'.heap[x]? = H[x]? := fun x h1 h2 => g2 x h1 (fun h3 => h2 (eA x h3))
  have hD1 : va_D (va_A [(q, .inl (T.1, 64, .inl (fun _ => 0)))] H.size) [(q, .inl (T.1, 64, .inl (fun j => if j < 64 then -1 else 0)))] := by
    refine ⟨fun i j x y hx hy _ => ?_, fun i x hx => ?_⟩
    · have h1 := (List.getElem?_eq_some_iff.mp hx).1
      have h2 := (List.getElem?_eq_some_iff.mp hy).1
      simp at h1 h2
      omega
    · have h1 := (List.getElem?_eq_some_iff.mp hx).1
      simp at h1
      subst h1
      simp at hx
      subst hx
      exact Or.inl ⟨0, _, rfl⟩
  obtain ⟨hP2, hD2⟩ := va_join (wc := [(q, .inl (T.1, 64, .inl (fun _ => 0)))]) (wr := wr) hP hD [k] isR (by simp [hk]) hR hnd hdis hk1 hFc hP1 hD1
  obtain ⟨t2, a1, b1⟩ := kk T'.heap (locs ++ L) hP2 hD2 g3 T' rfl X'
  exact ⟨t2, st t2 a1, b1⟩
end CN
