/-! Points of a body (mx_E), contracts (mx_Ct), and the step function's truth. -/
section MP
def mx_fr (d : Nat) : Nat := d + 10
def mx_lo (d : Nat) : Nat := 60 * d + 300
abbrev mx_R : Type := Option Value ⊕ String
def mx_Qc (LK : mx_L) (D : va_G) (T : mx_T) (ad : Nat → Nat) (A : Nat → Prop) (Q : mx_R → mx_M → Prop) : Array Value → State → Outcome → State → Prop := fun _ st o t =>
  (∃ (v : Option Value) (M : mx_M), o = .returned (v.map (mx_v ad)) ∧ Q (.inl v) M ∧ va_P D vwCl (mx_lay T ad LK M) t.heap) ∧ va_F A st t
def mx_XC (LK : mx_L) (D : va_G) (T : mx_T) (ad : Nat → Nat) (A : Nat → Prop) (Q : mx_R → mx_M → Prop) : String → State → State → Prop := fun E st t =>
  (∃ M : mx_M, Q (.inr E) M ∧ va_P D vwCl (mx_lay T ad LK M) t.heap) ∧ va_F A st t
/-- what holds all through a body -/
def mx_C (l : Launch) (LK : mx_L) (Y : mx_Y) (d : Nat) (p : Program) (R : Room) (s : State) (m : MethodId) (args : Array Value) (meth : Method) (c : Code) (D : va_G) (T : mx_T) (ad : Nat → Nat) (A : Nat → Prop) (mc ms : Nat) : Prop :=
  CallFix p m c (mx_bs Y) (mx_ml Y) s args (mx_ws Y) (mx_ow Y) ∧ (meth.sig.returnType = mx_rt Y ∧ meth.locks = false ∧ c.exceptionTable.toList = tableOf (mx_hh Y)) ∧
  (mx_ad LK ad ∧ (∀ k, k < LK.1.length → A (ad k)) ∧ ∀ q, s.heap.size ≤ q → A q) ∧ va_K D vwCl (mx_tys T) s ∧ mx_Z LK ad A s s.heap ∧
  (mc ≤ R.cells ∧ ms ≤ R.slots ∧ mx_fr d ≤ R.frames ∧ mx_lo d ≤ R.locals) ∧ l.stackTraces = false
def mx_E (l : Launch) (LK : mx_L) (Y : mx_Y) (d n : Nat) (Q : mx_R → mx_M → Prop) (pc : Nat) (ls st : List Value) (M : mx_M) : Prop :=
  ∀ (p : Program) (e : Env) (R : Room) (s : State) (m : MethodId) (args : Array Value) (below : List Frame) (meth : Method) (c : Code) (D : va_G) (T : mx_T) (ad : Nat → Nat) (A : Nat → Prop) (mc ms : Nat),
    mx_C l LK Y d p R s m args meth c D T ad A mc ms →
    ∀ (H : Heap) (locs : List Loc) (cells slots : Nat) (la : Array Slot), cells + n ≤ mc → slots + 6 * n ≤ ms → mx_ls ad (mx_ml Y) ls la → va_P D vwCl (mx_lay T ad LK M) H → va_S A s.heap H locs →
    W p l e R s m args below meth c H locs cells slots (vx_MQ below (mx_Qc LK D T ad A Q) (mx_XC LK D T ad A Q) args s mc ms A) (F0 m pc la (st.map (mx_v ad)))
theorem mx_lk {α : Type} : ∀ (l : List (Nat × α)) (k : Nat) (x : α), l.lookup k = some x → (k, x) ∈ l := by
  intro l
  induction l with
  | nil => intro k x h; simp at h
  | cons q t ih =>
    intro k x h
    obtain ⟨a, b⟩ := q
    rw [List.lookup_cons] at h
    split at h
    next hk => cases h; rw [eq_of_beq hk]; exact List.mem_cons_self
    next => exact List.mem_cons_of_mem _ (ih k x h)
theorem mx_ld_i {pc : Nat} {ls st : List Value} {M : mx_M} {k n : Nat} {r} (h : mx_ld pc ls st M k n false = some r) : ∃ x, ls[k]? = some (.int x) ∧ r = (none, pc + n, ls, .int x :: st, M) := by
  unfold mx_ld at h
  split at h
  next x hx => exact ⟨x, hx, (Option.some.inj h).symm⟩
  next => cases h
  next => cases h
theorem mx_ld_r {pc : Nat} {ls st : List Value} {M : mx_M} {k n : Nat} {r} (h : mx_ld pc ls st M k n true = some r) : ∃ x, ls[k]? = some (.ref x) ∧ r = (none, pc + n, ls, .ref x :: st, M) := by
  unfold mx_ld at h
  split at h
  next => cases h
  next x hx => exact ⟨x, hx, (Option.some.inj h).symm⟩
  next => cases h
theorem mx_sto_i {pc : Nat} {ls st : List Value} {M : mx_M} {k n : Nat} {r} (h : mx_sto pc ls st M k n false = some r) : ∃ x st', st = .int x :: st' ∧ k < ls.length ∧ r = (none, pc + n, ls.set k (.int x), st', M) := by
  unfold mx_sto at h
  split at h
  next x st' => 
    simp only [Bool.false_eq_true, if_false] at h
    split at h
    next hk => exact ⟨x, st', rfl, hk, (Option.some.inj h).symm⟩
    next => cases h
  next => cases h
  next => cases h
theorem mx_sto_r {pc : Nat} {ls st : List Value} {M : mx_M} {k n : Nat} {r} (h : mx_sto pc ls st M k n true = some r) : ∃ x st', st = .ref x :: st' ∧ k < ls.length ∧ r = (none, pc + n, ls.set k (.ref x), st', M) := by
  unfold mx_sto at h
  split at h
  next => cases h
  next x st' => 
    simp only [if_true] at h
    split at h
    next hk => exact ⟨x, st', rfl, hk, (Option.some.inj h).symm⟩
    next => cases h
  next => cases h
theorem mx_bin_s {pc : Nat} {ls st : List Value} {M : mx_M} {f} {r} (h : mx_bin pc ls st M f = some r) : ∃ x y st', st = .int y :: .int x :: st' ∧ r = (none, pc + 1, ls, .int (f x y) :: st', M) := by
  unfold mx_bin at h
  split at h
  next y x st' => exact ⟨x, y, st', rfl, (Option.some.inj h).symm⟩
  next => cases h
theorem mx_dv_s {pc : Nat} {ls st : List Value} {M : mx_M} {f} {r} (h : mx_dv pc ls st M f = some r) : ∃ x y st', st = .int y :: .int x :: st' ∧ r = (some (¬ y = 0), pc + 1, ls, .int (f x y) :: st', M) := by
  unfold mx_dv at h
  split at h
  next y x st' => exact ⟨x, y, st', rfl, (Option.some.inj h).symm⟩
  next => cases h
theorem mx_one_c {ad : Nat → Nat} {v : Value} (h : mx_one v = true) : (mx_v ad v).category = 1 := by
  cases v <;> first | rfl | cases h
theorem mx_gf_s {LK : mx_L} {M : mx_M} {a ci k : Nat} {v : Value} (h : mx_gf LK M a ci k = some v) : ∃ fs o, LK.1[a]? = some (.inr (.inl (ci, fs))) ∧ fs[k]? = some o ∧ v = (match o with | none => .int (M a k) | some b => .ref b) := by
  unfold mx_gf at h
  split at h
  next c fs ho =>
    split at h
    next hc =>
      subst hc
      split at h
      next hk => exact ⟨fs, _, ho, hk, (Option.some.inj h).symm⟩
      next b hk => exact ⟨fs, _, ho, hk, (Option.some.inj h).symm⟩
      next => cases h
    next => cases h
  next => cases h
theorem mx_pf_s {LK : mx_L} {a ci k : Nat} (h : mx_pf LK a ci k = true) : ∃ fs, LK.1[a]? = some (.inr (.inl (ci, fs))) ∧ fs[k]? = some none := by
  unfold mx_pf at h
  split at h
  next c fs ho =>
    split at h
    next hc =>
      subst hc
      split at h
      next hk => exact ⟨fs, ho, hk⟩
      next => cases h
    next => cases h
  next => cases h
theorem mx_al_s {LK : mx_L} {a n : Nat} (h : mx_al LK a = some n) : LK.1[a]? = some (.inl n) := by
  unfold mx_al at h
  split at h
  next m hm => cases h; exact hm
  next => cases h
theorem mx_ro_s {LK : mx_L} {a : Nat} {q : Nat × (Nat → Int32)} (h : mx_ro LK a = some q) : ∃ i, a = 1000 + i ∧ LK.2[i]? = some q := by
  unfold mx_ro at h
  split at h
  next ha => exact ⟨a - 1000, by omega, h⟩
  next => cases h
theorem mx_zl_s {LK : mx_L} {a n : Nat} (h : mx_zl LK a = some n) : LK.1[a]? = some (.inr (.inr (.inr (.inr n)))) := by
  unfold mx_zl at h
  split at h
  next m hm => cases h; exact hm
  next => cases h
theorem mx_fo_s {own : String} {f : Nat × Nat × Nat × Nat} (h : mx_fo own f = true) : ∃ (C : String) (T0 : u_T) (N : Nat), vwCl[f.2.1]? = some (C, T0, N) ∧ f.2.2.1 < N ∧ (T0 f.2.2.1).1 = C ∧ Cond.fieldLink own f.1 C (T0 f.2.2.1).2.1 (T0 f.2.2.1).2.2.1 ∈ mx_WS ∧ (∀ w ∈ u_ws C T0 N, w ∈ mx_WS) ∧
    (f.2.2.2 = 0 ∨ ((T0 f.2.2.1).2.2.2 = false ∧ parseFieldDescriptor (T0 f.2.2.1).2.2.1 = some (if f.2.2.2 = 2 then .boolean else .int))) := by
  unfold mx_fo at h
  split at h
  next q hq =>
    obtain ⟨C, T0, N⟩ := q
    simp only [Bool.and_eq_true, Bool.or_eq_true, decide_eq_true_eq, List.all_eq_true, Bool.not_eq_true'] at h
    obtain ⟨⟨⟨⟨h1, h2⟩, h3⟩, h4⟩, h5⟩ := h
    exact ⟨C, T0, N, hq, h1, h2, h3, h4, h5⟩
  next => cases h
/-- the step function tells the truth -/
theorem mx_st_ok {l : Launch} {LK : mx_L} {Y : mx_Y} {d n : Nat} {Q : mx_R → mx_M → Prop} {fl : mx_F} {tab : mx_B} (hok : mx_ok Y fl tab) {pc : Nat} {ls st : List Value} {M : mx_M} {r}
    (h : mx_st fl LK tab pc ls st M = some r) (hP : ∀ q, r.1 = some q → q) (kk : mx_E l LK Y d n Q r.2.1 r.2.2.1 r.2.2.2.1 r.2.2.2.2) : mx_E l LK Y d n Q pc ls st M := by
  unfold mx_st at h
  split at h
  next i len hx =>
    split at h
    next hlen =>
      have hd : decode (mx_bs Y) pc = .ok (i, mx_len i) := by
        have := hok.1 _ (mx_lk _ _ _ hx)
        dsimp only at this
        rw [this, hlen]
      clear hx hlen
      intro p e R s m args below meth c D T ad A mc ms hC H locs cells slots la h1 h2 hls hPw hS
      have hCC := hC
      obtain ⟨⟨hx, hb, hml, hown, hts⟩, ⟨hrt, hlk, htb⟩, ⟨had, hAd, hA⟩, hK, hZ, hroom, hl⟩ := hCC
      have k := kk p e R s m args below meth c D T ad A mc ms hC
      have hD := mx_D (T := T) had hAd
      cases i <;> (try (exact nomatch (show (none : mx_S) = some r from h)))
      case iconst v => obtain rfl := Option.some.inj h; exact lv_iconst hx hb hd rfl (k H locs cells slots la h1 h2 hls hPw hS)
      case bipush v => obtain rfl := Option.some.inj h; exact lv_bipush hx hb hd rfl (k H locs cells slots la h1 h2 hls hPw hS)
      case sipush v => obtain rfl := Option.some.inj h; exact lv_sipush hx hb hd rfl (k H locs cells slots la h1 h2 hls hPw hS)
      case iload_n v => obtain ⟨x, hx1, rfl⟩ := mx_ld_i h; exact lv_iload_n hx hb hd rfl (hls.2.2.2.1 _ _ hx1) (k H locs cells slots la h1 h2 hls hPw hS)
      case iload v => obtain ⟨x, hx1, rfl⟩ := mx_ld_i h; exact lv_iload hx hb hd (hls.2.2.2.1 _ _ hx1) (k H locs cells slots la h1 h2 hls hPw hS)
      case aload_n v => obtain ⟨x, hx1, rfl⟩ := mx_ld_r h; exact lv_aload_n hx hb hd rfl (hls.2.2.2.2 _ _ hx1) (k H locs cells slots la h1 h2 hls hPw hS)
      case aload v => obtain ⟨x, hx1, rfl⟩ := mx_ld_r h; exact lv_aload hx hb hd (hls.2.2.2.2 _ _ hx1) (k H locs cells slots la h1 h2 hls hPw hS)
      case istore_n v => obtain ⟨x, st', rfl, hk, rfl⟩ := mx_sto_i h; exact lv_istore_n hx hb hd rfl (mx_ls_has hls) (by rw [← hls.1]; exact hk) rfl (fun la' hl' => k H locs cells slots la' h1 h2 (mx_ls_st hls (by rw [← hls.1]; exact hk) (Or.inl ⟨x, rfl⟩) hl') hPw hS)
      case istore v => obtain ⟨x, st', rfl, hk, rfl⟩ := mx_sto_i h; exact lv_istore hx hb hd (mx_ls_has hls) (by rw [← hls.1]; exact hk) rfl (fun la' hl' => k H locs cells slots la' h1 h2 (mx_ls_st hls (by rw [← hls.1]; exact hk) (Or.inl ⟨x, rfl⟩) hl') hPw hS)
      case astore_n v => obtain ⟨x, st', rfl, hk, rfl⟩ := mx_sto_r h; exact lv_astore_n hx hb hd rfl (mx_ls_has hls) (by rw [← hls.1]; exact hk) rfl (fun la' hl' => k H locs cells slots la' h1 h2 (mx_ls_st hls (by rw [← hls.1]; exact hk) (Or.inr ⟨x, rfl⟩) hl') hPw hS)
      case astore v => obtain ⟨x, st', rfl, hk, rfl⟩ := mx_sto_r h; exact lv_astore hx hb hd (mx_ls_has hls) (by rw [← hls.1]; exact hk) rfl (fun la' hl' => k H locs cells slots la' h1 h2 (mx_ls_st hls (by rw [← hls.1]; exact hk) (Or.inr ⟨x, rfl⟩) hl') hPw hS)
      case iinc v c0 =>
        simp only [mx_i] at h
        split at h
        next x hx1 =>
          obtain rfl := Option.some.inj h
          obtain ⟨j, hj⟩ := List.getElem?_of_mem (mx_pr_int (ad := ad) hx1)
          have hk : v < mx_ml Y := by rw [← hls.1]; exact (List.getElem?_eq_some_iff.mp hx1).1
          exact lv_iinc hx hb hd (mx_ls_has hls) hj rfl hk rfl (fun la' hl' => k H locs cells slots la' h1 h2 (mx_ls_st hls hk (Or.inl ⟨_, rfl⟩) hl') hPw hS)
        next => cases h
      case iadd => obtain ⟨x, y, st', rfl, rfl⟩ := mx_bin_s h; exact lv_iadd hx hb hd (k H locs cells slots la h1 h2 hls hPw hS)
      case isub => obtain ⟨x, y, st', rfl, rfl⟩ := mx_bin_s h; exact lv_isub hx hb hd (k H locs cells slots la h1 h2 hls hPw hS)
      case imul => obtain ⟨x, y, st', rfl, rfl⟩ := mx_bin_s h; exact lv_imul hx hb hd (k H locs cells slots la h1 h2 hls hPw hS)
      case iand => obtain ⟨x, y, st', rfl, rfl⟩ := mx_bin_s h; exact lv_iand hx hb hd (k H locs cells slots la h1 h2 hls hPw hS)
      case ior => obtain ⟨x, y, st', rfl, rfl⟩ := mx_bin_s h; exact lv_ior hx hb hd (k H locs cells slots la h1 h2 hls hPw hS)
      case ixor => obtain ⟨x, y, st', rfl, rfl⟩ := mx_bin_s h; exact lv_ixor hx hb hd (k H locs cells slots la h1 h2 hls hPw hS)
      case ishl => obtain ⟨x, y, st', rfl, rfl⟩ := mx_bin_s h; exact lv_ishl hx hb hd (k H locs cells slots la h1 h2 hls hPw hS)
      case ishr => obtain ⟨x, y, st', rfl, rfl⟩ := mx_bin_s h; exact lv_ishr hx hb hd (k H locs cells slots la h1 h2 hls hPw hS)
      case iushr => obtain ⟨x, y, st', rfl, rfl⟩ := mx_bin_s h; exact lv_iushr hx hb hd rfl (k H locs cells slots la h1 h2 hls hPw hS)
      case idiv => obtain ⟨x, y, st', rfl, rfl⟩ := mx_dv_s h; exact lv_idiv hx hb hd (hP _ rfl) (k H locs cells slots la h1 h2 hls hPw hS)
      case irem => obtain ⟨x, y, st', rfl, rfl⟩ := mx_dv_s h; exact lv_irem hx hb hd (hP _ rfl) (k H locs cells slots la h1 h2 hls hPw hS)
      case ineg =>
        simp only [mx_i] at h
        split at h
        next => obtain rfl := Option.some.inj h; exact lv_ineg hx hb hd (k H locs cells slots la h1 h2 hls hPw hS)
        next => cases h
      case dup =>
        simp only [mx_i] at h
        split at h
        next v st' =>
          split at h
          next hv => obtain rfl := Option.some.inj h; exact lv_dup hx hb hd (mx_one_c hv) (k H locs cells slots la h1 h2 hls hPw hS)
          next => cases h
        next => cases h
      case pop =>
        simp only [mx_i] at h
        split at h
        next v st' =>
          split at h
          next hv => obtain rfl := Option.some.inj h; exact lv_pop hx hb hd (mx_one_c hv) (k H locs cells slots la h1 h2 hls hPw hS)
          next => cases h
        next => cases h
      case dup_x1 =>
        simp only [mx_i] at h
        split at h
        next v w st' =>
          split at h
          next hv => obtain rfl := Option.some.inj h; simp only [Bool.and_eq_true] at hv; exact lv_dup_x1 hx hb hd (mx_one_c hv.1) (mx_one_c hv.2) (k H locs cells slots la h1 h2 hls hPw hS)
          next => cases h
        next => cases h
      case dup_x2 =>
        simp only [mx_i] at h
        split at h
        next v w u st' =>
          split at h
          next hv => obtain rfl := Option.some.inj h; simp only [Bool.and_eq_true] at hv; exact lv_dup_x2 hx hb hd (mx_one_c hv.1.1) (mx_one_c hv.1.2) (mx_one_c hv.2) (k H locs cells slots la h1 h2 hls hPw hS)
          next => cases h
        next => cases h
      case dup2 =>
        simp only [mx_i] at h
        split at h
        next v w st' =>
          split at h
          next hv => obtain rfl := Option.some.inj h; simp only [Bool.and_eq_true] at hv; exact lv_dup2_11 hx hb hd (mx_one_c hv.1) (mx_one_c hv.2) (k H locs cells slots la h1 h2 hls hPw hS)
          next => cases h
        next => cases h
      case getfield idx =>
        simp only [mx_i] at h
        split at h
        next a st' =>
          split at h
          next ci kf tt hf =>
            split at h
            next v hv =>
              obtain rfl := Option.some.inj h
              obtain ⟨fs, o, hLK, ho, rfl⟩ := mx_gf_s hv
              obtain ⟨C, T0, N, q1, q2, q3, q4, q5, -⟩ := mx_fo_s (List.all_eq_true.mp hok.2.1 _ (mx_lk _ _ _ hf))
              dsimp only at q1 q2 q3 q4 q5
              refine va_get hx hb hts (fun w hw => hok.2.2 w (q5 w hw)) hown hK hPw a (mx_lay_get hLK) q1 kf q2 (hts _ (hok.2.2 _ q4)) (fun x hx => by rw [q3] at hx; exact hx) (mx_fs_get ho) hd ?_
              have k9 := k H locs cells slots la h1 h2 hls hPw hS
              cases o <;> exact k9
            next => cases h
          next => cases h
        next => cases h
      case putfield idx =>
        simp only [mx_i] at h
        split at h
        next v a st' =>
          split at h
          next ci kf tt hf =>
            split at h
            next hv =>
              obtain ⟨fs, hLK, ho⟩ := mx_pf_s hv
              obtain ⟨C, T0, N, q1, q2, q3, q4, q5, q6⟩ := mx_fo_s (List.all_eq_true.mp hok.2.1 _ (mx_lk _ _ _ hf))
              dsimp only at q1 q2 q3 q4 q5 q6
              obtain ⟨ty0, hty, hnm⟩ := mx_ty _ _ _ _ q1
              have hlen : kf < (mx_fs ad (M a) fs).length := by
                have := (List.getElem?_eq_some_iff.mp ho).1
                simpa [mx_fs] using this
              have key : ∀ (r2 : mx_M), r2 = mx_up M a kf v → (mx_lay T ad LK M).set a (ad a, .inr (ci, (mx_fs ad (M a) fs).set kf (.int v))) = mx_lay T ad LK r2 := by
                intro r2 e2
                rw [e2, ← mx_lay_up hLK, mx_fs_set ho]
                rfl
              split at h
              next ht =>
                obtain rfl := Option.some.inj h
                rcases q6 with q6 | ⟨q6, q7⟩
                · omega
                rw [if_neg (by omega)] at q7
                refine va_put hx hb hts (fun w hw => hok.2.2 w (q5 w hw)) ty0 hty hnm hown hK hPw (hD M) hS a (mx_lay_get hLK) q1 kf q2 (hts _ (hok.2.2 _ q4)) (fun x hx => by rw [q3] at hx; exact hx) q6 q7 rfl rfl hlen hd (fun H1 locs1 a1 a2 a3 => ?_)
                exact k H1 locs1 cells slots la h1 h2 hls (by rw [← key _ rfl]; exact a1) a3
              next =>
                split at h
                next ht =>
                  obtain rfl := Option.some.inj h
                  have hv2 := hP _ rfl
                  rcases q6 with q6 | ⟨q6, q7⟩
                  · omega
                  rw [if_pos ht] at q7
                  refine va_put hx hb hts (fun w hw => hok.2.2 w (q5 w hw)) ty0 hty hnm hown hK hPw (hD M) hS a (mx_lay_get hLK) q1 kf q2 (hts _ (hok.2.2 _ q4)) (fun x hx => by rw [q3] at hx; exact hx) q6 q7 (by rcases hv2 with rfl | rfl <;> rfl) (by rcases hv2 with rfl | rfl <;> rfl) hlen hd (fun H1 locs1 a1 a2 a3 => ?_)
                  exact k H1 locs1 cells slots la h1 h2 hls (by rw [← key _ rfl]; exact a1) a3
                next => cases h
            next => cases h
          next => cases h
        next => cases h
      case goto off =>
        simp only [mx_i] at h
        split at h
        next ho =>
          obtain rfl := Option.some.inj h
          exact lv_goto hx hb hd (Int.toNat_of_nonneg ho).symm (k H locs cells slots la h1 h2 hls hPw hS)
        next => cases h
      case iaload =>
        simp only [mx_i] at h
        split at h
        next j a st' =>
          split at h
          next n0 hn0 =>
            obtain rfl := Option.some.inj h
            exact va_iald hx hb hK hPw a 0 (mx_lay_get (mx_al_s hn0)) rfl (hP _ rfl) hd (k H locs cells slots la h1 h2 hls hPw hS)
          next =>
            split at h
            next qn qf hq =>
              obtain rfl := Option.some.inj h
              obtain ⟨i0, rfl, hi0⟩ := mx_ro_s hq
              obtain ⟨z1, z2, z3⟩ := hZ.2.2.2.2.2.2 i0 (qn, qf) hi0
              obtain ⟨scr, y1, y2, y3, y4, y5, y6⟩ := z1
              have hin : vp_in j qn := hP _ rfl
              have hlt : j.toNatClampNeg < qn := Nat.not_le.mp fun q => hin (Or.inr q)
              exact W.iald (v := .int (qf j.toNatClampNeg)) hx hb (by rw [hS.2.1 _ z2 z3]; exact y1) y2 y3 (fun q => hin (q.elim Or.inl (fun q => Or.inr (Nat.le_trans y4 q)))) (y6 _ hlt) rfl rfl hd (k H locs cells slots la h1 h2 hls hPw hS)
            next => cases h
        next => cases h
      case iastore =>
        simp only [mx_i] at h
        split at h
        next v j a st' =>
          split at h
          next n0 hn0 =>
            obtain rfl := Option.some.inj h
            refine va_iast hx hb hK hPw (hD M) hS a 0 (mx_lay_get (mx_al_s hn0)) rfl (hP _ rfl) hd (fun H1 locs1 a1 a2 a3 => ?_)
            exact k H1 locs1 cells slots la h1 h2 hls (by rw [← mx_lay_up (mx_al_s hn0)]; exact a1) a3
          next => cases h
        next => cases h
      case baload =>
        simp only [mx_i] at h
        split at h
        next j a st' =>
          split at h
          next n0 hn0 =>
            obtain rfl := Option.some.inj h
            exact va_zald hx hb hK hPw a 3 (mx_lay_get (mx_zl_s hn0)) rfl (hP _ rfl) hd (k H locs cells slots la h1 h2 hls hPw hS)
          next => cases h
        next => cases h
      case bastore =>
        simp only [mx_i] at h
        split at h
        next v j a st' =>
          split at h
          next n0 hn0 =>
            obtain rfl := Option.some.inj h
            obtain ⟨hv1, hv2⟩ := hP _ rfl
            have hv3 : vp_nar .boolean v = v := by rcases hv2 with rfl | rfl <;> rfl
            refine va_zast hx hb hK hPw (hD M) hS a 3 (mx_lay_get (mx_zl_s hn0)) rfl hv1 hd (fun H1 locs1 a1 a2 a3 => ?_)
            rw [hv3] at a1
            exact k H1 locs1 cells slots la h1 h2 hls (by rw [← mx_lay_up (mx_zl_s hn0)]; exact a1) a3
          next => cases h
        next => cases h
      case arraylength =>
        simp only [mx_i] at h
        split at h
        next a st' =>
          split at h
          next n0 hn0 =>
            obtain rfl := Option.some.inj h
            exact va_alen hx hb hK hPw a 0 (mx_lay_get (mx_al_s hn0)) rfl rfl hd (k H locs cells slots la h1 h2 hls hPw hS)
          next =>
            split at h
            next qn qf hq =>
              obtain rfl := Option.some.inj h
              obtain ⟨i0, rfl, hi0⟩ := mx_ro_s hq
              obtain ⟨z1, z2, z3⟩ := hZ.2.2.2.2.2.2 i0 (qn, qf) hi0
              obtain ⟨scr, y1, y2, y3, y4, y5, y6⟩ := z1
              exact W.alen (n := Int32.ofNat qn) hx hb (by rw [hS.2.1 _ z2 z3]; exact y1) y2 y5 rfl rfl hd (k H locs cells slots la h1 h2 hls hPw hS)
            next => cases h
        next => cases h
    next => cases h
  next => cases h
end MP
