/-! PegBoards: refusals, and the small methods of its face. -/
section FA
variable {l : Launch} {sc : Nat × (Nat → Int32)} {d n n' : Nat} {M : mx_M}
def mx_rA (r : mx_R) (M' : mx_M) : mx_R → mx_M → Prop := fun r2 M2 => r2 = r ∧ M2 = M'
abbrev xIA : String := "java/lang/IllegalArgumentException"
abbrev xIS : String := "java/lang/IllegalStateException"
abbrev xIO : String := "java/lang/IndexOutOfBoundsException"
theorem tw_IA : mx_tw "PegBoards" 68 xIA = true := by decide +kernel
theorem tw_IS : mx_tw "PegBoards" 78 xIS = true := by decide +kernel
theorem tw_IO : mx_tw "PegBoards" 122 xIO = true := by decide +kernel
section
variable {LK : mx_L} {Y Y' : mx_Y} {Q : mx_R → mx_M → Prop} {fl : mx_F} {tab : mx_B} {pc : Nat} {ls st : List Value}
/-- a call that may be refused, of a method without an answer -/
theorem mx_cVr (hok : mx_ok Y fl tab) (k : Nat) {P C : Prop} [Decidable C] {E : String} {pc' b ci idx n0 : Nat} {ls' As rest : List Value} {M' M3 : mx_M} {fs : List (Option Nat)} {T0 : u_T} {N : Nat} (hh : mx_hh Y = []) (hM : mx_Ct l LK Y' d n' (.ref b :: As) M' (mx_rA (if C then .inl none else .inr E) M3))
    (h : mx_run fl LK tab k pc ls st M = some (P, pc', ls', As.reverse ++ .ref b :: rest, M')) (hP : P) (hd : tab.lookup pc' = some (.invokevirtual idx, 3)) (hb : LK.1[b]? = some (.inr (.inl (ci, fs)))) (hcl : vwCl[ci]? = some ((mx_nm Y').cls, T0, N))
    (hc : mx_cvb (mx_ow Y) idx Y' = true) (hc2 : mx_cdb Y' n0 = true) (hw : mx_ws Y' = Cond.code (mx_nm Y') (mx_bs Y') (mx_ml Y') (mx_rt Y') :: mx_WS) (hn : As.length = n0) (hr : Nat.ble (mx_w rest) 8 = true)
    (kr : C → mx_E l LK Y (d + 1) n Q (pc' + 3) ls' rest M3) (kx : ¬ C → Q (.inr E) M3) : mx_E l LK Y (d + 1) (n + n') Q pc ls st M := by
  refine mx_cV hok k hh hM h hP hd hb hcl hc hc2 hw hn hr (fun v2 M2 q => ?_) (fun E2 M2 q => ?_)
  · obtain ⟨q1, rfl⟩ := q
    by_cases c : C
    · rw [if_pos c] at q1
      cases q1
      exact kr c
    · rw [if_neg c] at q1
      cases q1
  · obtain ⟨q1, rfl⟩ := q
    by_cases c : C
    · rw [if_pos c] at q1
      cases q1
    · rw [if_neg c] at q1
      cases q1
      exact kx c
end
theorem ct_Pe_requireFrozen (hl : l.stackTraces = false) (h : M 1 4 = 0 ∨ M 1 4 = 1) : mx_Ct l (pg_L sc) mY_Pe_requireFrozen (d + 1) 1 [.ref 0] M (mx_rA (if ¬ M 1 4 = 0 then .inl none else .inr xIS) M) := by
  refine mx_bd (n0 := 1) hl (by decide +kernel) rfl rfl rfl ?_
  refine mx_cVi mo_Pe_requireFrozen 2 (rest := []) rfl (ct_Bo_isFrozen hl h) rfl trivial rfl rfl rfl kv_Pe_205 kd_Bo_isFrozen rfl rfl rfl ?_
  refine mx_if mo_Pe_requireFrozen 0 (t := 20) (f := 10) rfl trivial (fun q => ?_) (fun q => ?_)
  · exact mx_ret_v mo_Pe_requireFrozen rfl 0 rfl trivial rfl ⟨by rw [if_pos q], rfl⟩
  · exact mx_thr (n := 0) mo_Pe_requireFrozen 0 (cls := xIS) (text := "the board is not frozen") rfl rfl trivial rfl rfl rfl rfl rfl tw_IS (by decide +kernel) ⟨by rw [if_neg (fun c => c q)], rfl⟩
def pe_all (M : mx_M) : Int32 := (1 <<< ((if M 1 4 = 0 then 0 else M 1 5) &&& 31)) - 1
theorem ct_Pe_requirePosition (hl : l.stackTraces = false) (p : Int32) : mx_Ct l (pg_L sc) mY_Pe_requirePosition (d + 2) 1 [.ref 0, .int p] M (mx_rA (if p &&& (pe_all M ^^^ (-1)) = 0 then .inl none else .inr xIA) M) := by
  refine mx_bd (n0 := 2) hl (by decide +kernel) rfl rfl rfl ?_
  refine mx_cVi mo_Pe_requirePosition 3 (rest := [.int p]) rfl (ct_Bo_allHoles hl) rfl trivial rfl rfl rfl kv_Pe_210 kd_Bo_allHoles rfl rfl rfl ?_
  change mx_E l (pg_L sc) mY_Pe_requirePosition (d + 2) 1 _ 8 [.ref 0, .int p] [.int (pe_all M), .int p] M
  refine mx_if mo_Pe_requirePosition 3 (t := 24) (f := 14) rfl trivial (fun (q : p &&& (pe_all M ^^^ (-1)) = 0) => ?_) (fun (q : ¬ p &&& (pe_all M ^^^ (-1)) = 0) => ?_)
  · exact mx_ret_v mo_Pe_requirePosition rfl 0 rfl trivial rfl ⟨by rw [if_pos q], rfl⟩
  · exact mx_thr (n := 0) mo_Pe_requirePosition 0 (cls := xIA) (text := "the position has a hole that there is none") rfl rfl trivial rfl rfl rfl rfl rfl tw_IA (by decide +kernel) ⟨by rw [if_neg q], rfl⟩
theorem ct_Pe_requireJump (hl : l.stackTraces = false) (k : Int32) : mx_Ct l (pg_L sc) mY_Pe_requireJump (d + 1) 1 [.ref 0, .int k] M (mx_rA (if ¬ k < 0 ∧ k < M 5 5 then .inl none else .inr xIO) M) := by
  refine mx_bd (n0 := 2) hl (by decide +kernel) rfl rfl rfl ?_
  have fin : ¬ (¬ k < 0 ∧ k < M 5 5) → mx_E l (pg_L sc) mY_Pe_requireJump (d + 1) 1 (mx_rA (if ¬ k < 0 ∧ k < M 5 5 then .inl none else .inr xIO) M) 15 [.ref 0, .int k] [] M :=
    fun q => mx_thr (n := 0) mo_Pe_requireJump 0 (cls := xIO) (text := "no such jump") rfl rfl trivial rfl rfl rfl rfl rfl tw_IO (by decide +kernel) ⟨by rw [if_neg q], rfl⟩
  refine mx_if mo_Pe_requireJump 1 (t := 15) (f := 4) rfl trivial (fun q => fin (fun c => c.1 q)) (fun q => ?_)
  refine mx_cVi mo_Pe_requireJump 3 (rest := [.int k]) rfl (ct_Ju_size hl) rfl trivial rfl rfl rfl kv_Pe_97 kd_Ju_size rfl rfl rfl ?_
  refine mx_if mo_Pe_requireJump 0 (t := 25) (f := 15) rfl trivial (fun q2 => ?_) (fun q2 => fin (fun c => q2 c.2))
  exact mx_ret_v mo_Pe_requireJump rfl 0 rfl trivial rfl ⟨by rw [if_pos ⟨q, q2⟩], rfl⟩
theorem ct_Pe_requireHole (hl : l.stackTraces = false) (k : Int32) : mx_Ct l (pg_L sc) mY_Pe_requireHole (d + 1) 1 [.ref 0, .int k] M (mx_rA (if ¬ k < 0 ∧ k < (if M 1 4 = 0 then 0 else M 1 5) then .inl none else .inr xIO) M) := by
  refine mx_bd (n0 := 2) hl (by decide +kernel) rfl rfl rfl ?_
  have hh := ct_Bo_holes (l := l) (sc := sc) (d := d) (M := M) hl
  generalize (if M 1 4 = 0 then 0 else M 1 5) = H at hh ⊢
  have fin : ¬ (¬ k < 0 ∧ k < H) → mx_E l (pg_L sc) mY_Pe_requireHole (d + 1) 1 (mx_rA (if ¬ k < 0 ∧ k < H then .inl none else .inr xIO) M) 15 [.ref 0, .int k] [] M :=
    fun q => mx_thr (n := 0) mo_Pe_requireHole 0 (cls := xIO) (text := "no such hole") rfl rfl trivial rfl rfl rfl rfl rfl tw_IO (by decide +kernel) ⟨by rw [if_neg q], rfl⟩
  refine mx_if mo_Pe_requireHole 1 (t := 15) (f := 4) rfl trivial (fun q => fin (fun c => c.1 q)) (fun q => ?_)
  refine mx_cVi mo_Pe_requireHole 3 (rest := [.int k]) rfl hh rfl trivial rfl rfl rfl kv_Pe_190 kd_Bo_holes rfl rfl rfl ?_
  refine mx_if mo_Pe_requireHole 0 (t := 25) (f := 15) rfl trivial (fun q2 => ?_) (fun q2 => fin (fun c => q2 c.2))
  exact mx_ret_v mo_Pe_requireHole rfl 0 rfl trivial rfl ⟨by rw [if_pos ⟨q, q2⟩], rfl⟩
def pe_clear (M : mx_M) (t : Int32) : mx_M := mx_up (mx_up (pg_fill (mx_up (mx_up (pg_wipe M t) 5 5 0) 11 4 0) 39 20 0) 0 5 0) 0 6 0
theorem ct_Pe_clear (hl : l.stackTraces = false) {t : Int32} (ht : t = 0 ∨ t = 1) : mx_Ct l (pg_L sc) mY_Pe_clear (d + 2) 0 [.ref 0, .int t] M (mx_rV (pe_clear M t)) := by
  refine mx_bd (n0 := 2) hl (by decide +kernel) rfl rfl rfl ?_
  refine mx_cVv mo_Pe_clear 3 (As := [.int t]) (rest := []) rfl (ct_Bo_wipe hl ht) rfl trivial rfl rfl rfl kv_Pe_44 kd_Bo_wipe rfl rfl rfl ?_
  refine mx_cVv mo_Pe_clear 2 (As := []) (rest := []) rfl (ct_Ju_forget hl) rfl trivial rfl rfl rfl kv_Pe_48 kd_Ju_forget rfl rfl rfl ?_
  refine mx_cVv mo_Pe_clear 2 (As := []) (rest := []) rfl (ct_Sy_forget hl) rfl trivial rfl rfl rfl kv_Pe_51 kd_Sy_forget rfl rfl rfl ?_
  refine mx_cVv mo_Pe_clear 2 (As := []) (rest := []) rfl (ct_We_forget hl) rfl trivial rfl rfl rfl kv_Pe_52 kd_We_forget rfl rfl rfl ?_
  exact mx_ret_v mo_Pe_clear rfl 6 (M' := pe_clear M t) rfl trivial rfl ⟨rfl, rfl⟩
def pe_hole (M : mx_M) (r c : Int32) : mx_R × mx_M := if pg_in r c = 0 then (.inr xIA, M) else if pg_cd M (r * 8 + c).toNatClampNeg = 0 then (.inr xIS, M) else (.inl (some (.int (M 1 5 + 1))), mx_up (mx_up M 2 (r * 8 + c).toNatClampNeg 0) 1 5 (M 1 5 + 1))
theorem ct_Pe_hole (hl : l.stackTraces = false) (r c : Int32) : mx_Ct l (pg_L sc) mY_Pe_hole (d + 1) 1 [.ref 0, .int r, .int c] M (mx_rA (pe_hole M r c).1 (pe_hole M r c).2) := by
  refine mx_bd (n0 := 3) hl (by decide +kernel) rfl rfl rfl ?_
  refine mx_cSi mo_Pe_hole 2 (As := [.int r, .int c]) (rest := []) rfl (ct_Pe_isPlace hl r c) rfl trivial rfl ks_Pe_60 kd_Pe_isPlace rfl rfl rfl ?_
  rw [pe_hole]
  refine mx_if mo_Pe_hole 0 (t := 18) (f := 8) rfl trivial (fun q => ?_) (fun q => ?_)
  · rw [if_neg q]
    obtain ⟨i, j, hi, hj, rfl, rfl⟩ := pg_in_s q
    have e : (nI i * 8 + nI j).toNatClampNeg = i * 8 + j := by rw [pg_ix]; exact nI_clamp (by omega)
    rw [e]
    refine mx_cVi mo_Pe_hole 4 (As := [.int (nI i), .int (nI j)]) (rest := []) rfl (ct_Bo_canDraw hl hi hj) rfl trivial rfl rfl rfl kv_Pe_71 kd_Bo_canDraw rfl rfl rfl ?_
    refine mx_if mo_Pe_hole 0 (t := 40) (f := 30) rfl trivial (fun q1 => ?_) (fun q1 => ?_)
    · rw [if_neg q1]
      refine mx_cVi mo_Pe_hole 4 (As := [.int (nI i), .int (nI j)]) (rest := []) rfl (ct_Bo_draw hl hi hj) rfl trivial rfl rfl rfl kv_Pe_79 kd_Bo_draw rfl rfl rfl ?_
      exact mx_ret_i mo_Pe_hole rfl 0 rfl trivial rfl ⟨rfl, rfl⟩
    · rw [if_pos q1]
      exact mx_thr (n := 0) mo_Pe_hole 0 (cls := xIS) (text := "no hole can be drawn there now") rfl rfl trivial rfl rfl rfl rfl rfl tw_IS (by decide +kernel) ⟨rfl, rfl⟩
  · rw [if_pos q]
    exact mx_thr (n := 0) mo_Pe_hole 0 (cls := xIA) (text := "no such place") rfl rfl trivial rfl rfl rfl rfl rfl tw_IA (by decide +kernel) ⟨rfl, rfl⟩
theorem ct_Pe_at (hl : l.stackTraces = false) (r c : Int32) : mx_Ct l (pg_L sc) mY_Pe_at (d + 2) 0 [.ref 0, .int r, .int c] M (mx_rI (pg_at M r c) M) := by
  refine mx_bd (n0 := 3) hl (by decide +kernel) rfl rfl rfl ?_
  refine mx_cVi mo_Pe_at 4 (As := [.int r, .int c]) (rest := []) rfl (ct_Bo_numberAt hl r c) rfl trivial rfl rfl rfl kv_Pe_101 kd_Bo_numberAt rfl rfl rfl ?_
  exact mx_ret_i mo_Pe_at rfl 0 rfl trivial rfl ⟨rfl, rfl⟩
theorem ct_Pe_symmetries (hl : l.stackTraces = false) : mx_Ct l (pg_L sc) mY_Pe_symmetries (d + 1) 0 [.ref 0] M (mx_rI (M 11 4) M) := by
  refine mx_bd (n0 := 1) hl (by decide +kernel) rfl rfl rfl ?_
  refine mx_cVi mo_Pe_symmetries 2 (As := []) (rest := []) rfl (ct_Sy_size hl) rfl trivial rfl rfl rfl kv_Pe_151 kd_Sy_size rfl rfl rfl ?_
  exact mx_ret_i mo_Pe_symmetries rfl 0 rfl trivial rfl ⟨rfl, rfl⟩
end FA
