/-! PegBoards: its face, but freezing. -/
section FB
variable {l : Launch} {sc : Nat × (Nat → Int32)} {d n n' : Nat} {M : mx_M}
theorem nI_inJ {k : Int32} {J : Nat} (hJ : J < 2 ^ 31) (h : ¬ k < 0 ∧ k < nI J) : ∃ j, j < J ∧ k = nI j := by
  obtain ⟨j, hj, rfl⟩ := nI_of h.1
  exact ⟨j, (nI_ltI hj hJ).mp h.2, rfl⟩
theorem i3_of {x : Int32} (h1 : ¬ x.toInt < 0) (h2 : ¬ 2 < x.toInt) : x = 0 ∨ x = 1 ∨ x = 2 := by
  rcases (show x.toInt = 0 ∨ x.toInt = 1 ∨ x.toInt = 2 by omega) with h | h | h
  · exact Or.inl (Int32.toInt_inj.mp (by rw [h]; rfl))
  · exact Or.inr (Or.inl (Int32.toInt_inj.mp (by rw [h]; rfl)))
  · exact Or.inr (Or.inr (Int32.toInt_inj.mp (by rw [h]; rfl)))
theorem i3_no {x : Int32} (h : x.toInt < 0 ∨ 2 < x.toInt) : ¬ x = 0 ∧ ¬ x = 1 ∧ ¬ x = 2 := by
  refine ⟨fun e => ?_, fun e => ?_, fun e => ?_⟩
  · rw [e, show (0 : Int32).toInt = 0 from rfl] at h; omega
  · rw [e, show (1 : Int32).toInt = 1 from rfl] at h; omega
  · rw [e, show (2 : Int32).toInt = 2 from rfl] at h; omega
def pe_jump (M : mx_M) (k w : Int32) : mx_R := if ¬ k < 0 ∧ k < M 5 5 then (if w = 0 then .inl (some (.int (M 6 k.toNatClampNeg))) else if w = 1 then .inl (some (.int (M 7 k.toNatClampNeg))) else if w = 2 then .inl (some (.int (M 8 k.toNatClampNeg))) else .inr xIO) else .inr xIO
theorem ct_Pe_jump (hl : l.stackTraces = false) {J : Nat} (hJ : J ≤ 120) (hs : M 5 5 = nI J) (k w : Int32) : mx_Ct l (pg_L sc) mY_Pe_jump (d + 2) 2 [.ref 0, .int k, .int w] M (mx_rA (pe_jump M k w) M) := by
  refine mx_bd (n0 := 3) hl (by decide +kernel) rfl rfl rfl ?_
  refine mx_cVr (n := 1) (n' := 1) mo_Pe_jump 2 (As := [.int k]) (rest := []) rfl (ct_Pe_requireJump hl k) rfl trivial rfl rfl rfl kv_Pe_104 kd_Pe_requireJump rfl rfl rfl (fun q => ?_) (fun q => ⟨by rw [pe_jump, if_neg q], rfl⟩)
  rw [pe_jump, if_pos q]
  rw [hs] at q
  obtain ⟨j, hj, rfl⟩ := nI_inJ (by omega) q
  rw [nI_clamp (by omega)]
  refine mx_ts mo_Pe_jump 1 (x := w) rfl trivial rfl (fun h1 h2 => ?_) (fun h => ?_)
  · rcases i3_of h1 h2 with rfl | rfl | rfl
    · refine ⟨26, 32, rfl, rfl, ?_⟩
      rw [if_pos rfl]
      refine mx_cVi mo_Pe_jump 3 (As := [.int (nI j)]) (rest := []) rfl (ct_Ju_from hl (by omega)) rfl trivial rfl rfl rfl kv_Pe_108 kd_Ju_from rfl rfl rfl ?_
      exact mx_ret_i mo_Pe_jump rfl 0 rfl trivial rfl ⟨rfl, rfl⟩
    · refine ⟨35, 41, rfl, rfl, ?_⟩
      rw [if_neg (by decide), if_pos rfl]
      refine mx_cVi mo_Pe_jump 3 (As := [.int (nI j)]) (rest := []) rfl (ct_Ju_over hl (by omega)) rfl trivial rfl rfl rfl kv_Pe_112 kd_Ju_over rfl rfl rfl ?_
      exact mx_ret_i mo_Pe_jump rfl 0 rfl trivial rfl ⟨rfl, rfl⟩
    · refine ⟨44, 50, rfl, rfl, ?_⟩
      rw [if_neg (by decide), if_neg (by decide), if_pos rfl]
      refine mx_cVi mo_Pe_jump 3 (As := [.int (nI j)]) (rest := []) rfl (ct_Ju_to hl (by omega)) rfl trivial rfl rfl rfl kv_Pe_115 kd_Ju_to rfl rfl rfl ?_
      exact mx_ret_i mo_Pe_jump rfl 0 rfl trivial rfl ⟨rfl, rfl⟩
  · obtain ⟨h1, h2, h3⟩ := i3_no h
    refine ⟨59, rfl, ?_⟩
    rw [if_neg h1, if_neg h2, if_neg h3]
    exact mx_thr (n := 0) mo_Pe_jump 0 (cls := xIO) (text := "no such part of a jump") rfl rfl trivial rfl rfl rfl rfl rfl tw_IO (by decide +kernel) ⟨rfl, rfl⟩
def pe_place (M : mx_M) (b p : Int32) : mx_R × mx_M := if p &&& (pe_all M ^^^ (-1)) = 0 then (.inl none, if b = 0 then mx_up M 0 5 p else mx_up M 0 6 p) else (.inr xIA, M)
theorem ct_Pe_place (hl : l.stackTraces = false) (b p : Int32) : mx_Ct l (pg_L sc) mY_Pe_place (d + 3) 1 [.ref 0, .int b, .int p] M (mx_rA (pe_place M b p).1 (pe_place M b p).2) := by
  refine mx_bd (n0 := 3) hl (by decide +kernel) rfl rfl rfl ?_
  rw [pe_place]
  refine mx_cVr (n := 0) (n' := 1) mo_Pe_place 2 (As := [.int p]) (rest := []) rfl (ct_Pe_requirePosition hl p) rfl trivial rfl rfl rfl kv_Pe_123 kd_Pe_requirePosition rfl rfl rfl (fun q => ?_) (fun q => ⟨by rw [if_neg q], by rw [if_neg q]⟩)
  rw [if_pos q]
  refine mx_if mo_Pe_place 1 (t := 17) (f := 9) rfl trivial (fun q1 => ?_) (fun q1 => ?_)
  · exact mx_ret_v mo_Pe_place rfl 3 (M' := mx_up M 0 5 p) rfl trivial rfl ⟨rfl, by rw [if_pos q1]⟩
  · exact mx_ret_v mo_Pe_place rfl 4 (M' := mx_up M 0 6 p) rfl trivial rfl ⟨rfl, by rw [if_neg q1]⟩
def pe_after (M : mx_M) (p k : Int32) : mx_R := if ¬ k < 0 ∧ k < M 5 5 then (if p &&& (pe_all M ^^^ (-1)) = 0 then .inl (some (.int (pg_mk p (M 10 k.toNatClampNeg) (M 9 k.toNatClampNeg)))) else .inr xIA) else .inr xIO
theorem ct_Pe_after (hl : l.stackTraces = false) {J : Nat} (hJ : J ≤ 120) (hs : M 5 5 = nI J) (p k : Int32) : mx_Ct l (pg_L sc) mY_Pe_after (d + 3) 2 [.ref 0, .int p, .int k] M (mx_rA (pe_after M p k) M) := by
  refine mx_bd (n0 := 3) hl (by decide +kernel) rfl rfl rfl ?_
  refine mx_cVr (n := 1) (n' := 1) mo_Pe_after 2 (As := [.int k]) (rest := []) rfl (ct_Pe_requireJump hl k) rfl trivial rfl rfl rfl kv_Pe_104 kd_Pe_requireJump rfl rfl rfl (fun q => ?_) (fun q => ⟨by rw [pe_after, if_neg q], rfl⟩)
  rw [pe_after, if_pos q]
  rw [hs] at q
  obtain ⟨j, hj, rfl⟩ := nI_inJ (by omega) q
  rw [nI_clamp (by omega)]
  refine mx_cVr (n := 0) (n' := 1) mo_Pe_after 2 (As := [.int p]) (rest := []) rfl (ct_Pe_requirePosition hl p) rfl trivial rfl rfl rfl kv_Pe_123 kd_Pe_requirePosition rfl rfl rfl (fun q => ?_) (fun q => ⟨by rw [if_neg q], rfl⟩)
  rw [if_pos q]
  refine mx_cVi mo_Pe_after 4 (As := [.int p, .int (nI j)]) (rest := []) rfl (ct_Ju_make hl p (by omega)) rfl trivial rfl rfl rfl kv_Pe_126 kd_Ju_make rfl rfl rfl ?_
  exact mx_ret_i mo_Pe_after rfl 0 rfl trivial rfl ⟨rfl, rfl⟩
/-- the walk of a limit -/
def pe_go (M : mx_M) (L J : Nat) : mx_M := re_all L J L 0 (re_s0 M (M 0 5))
def pe_rw (M : mx_M) (lim : Int32) (Z : mx_R × mx_M) : mx_R × mx_M := if M 1 4 = 0 then (.inr xIS, M) else if lim < 1 ∨ ¬ lim ≤ 500 then (.inr xIA, M) else Z
theorem pe_lim {lim : Int32} (h : ¬ (lim < 1 ∨ ¬ lim ≤ 500)) : ∃ L, 1 ≤ L ∧ L ≤ 500 ∧ lim = nI L := by
  have h1 : ¬ lim < 1 := fun q => h (Or.inl q)
  have h2 : lim ≤ 500 := Classical.byContradiction fun q => h (Or.inr q)
  have h0 : ¬ lim < 0 := fun q => h1 (Int32.lt_trans q (by decide))
  obtain ⟨L, hL, rfl⟩ := nI_of h0
  rw [show (1 : Int32) = nI 1 from rfl, nI_ltI hL (by decide)] at h1
  rw [show (500 : Int32) = nI 500 from rfl, nI_leI hL (by decide)] at h2
  exact ⟨L, by omega, h2, rfl⟩
theorem ct_Pe_reachWithin (hl : l.stackTraces = false) {J : Nat} (hJ : J ≤ 120) (hs : M 5 5 = nI J) (hf : M 1 4 = 0 ∨ M 1 4 = 1) (lim : Int32) : mx_Ct l (pg_L sc) mY_Pe_reachWithin (d + 5) 2 [.ref 0, .int lim] M (mx_rA (pe_rw M lim (.inl none, pe_go M lim.toNatClampNeg J)).1 (pe_rw M lim (.inl none, pe_go M lim.toNatClampNeg J)).2) := by
  refine mx_bd (n0 := 2) hl (by decide +kernel) rfl rfl rfl ?_
  refine mx_cVr (n := 1) (n' := 1) mo_Pe_reachWithin 1 (As := []) (rest := []) rfl (ct_Pe_requireFrozen (d := d + 3) hl hf) rfl trivial rfl rfl rfl kv_Pe_160 kd_Pe_requireFrozen rfl rfl rfl (fun q => ?_) (fun q => ?_)
  · rw [pe_rw, if_neg q]
    have fin : (lim < 1 ∨ ¬ lim ≤ 500) → mx_E l (pg_L sc) mY_Pe_reachWithin (d + 4 + 1) 1 (mx_rA (if lim < 1 ∨ ¬ lim ≤ 500 then ((.inr xIA, M) : mx_R × mx_M) else (.inl none, pe_go M lim.toNatClampNeg J)).1 (if lim < 1 ∨ ¬ lim ≤ 500 then ((.inr xIA, M) : mx_R × mx_M) else (.inl none, pe_go M lim.toNatClampNeg J)).2) 16 [.ref 0, .int lim] [] M := by
      intro q2
      rw [if_pos q2]
      exact mx_thr (n := 0) mo_Pe_reachWithin 0 (cls := xIA) (text := "no such limit") rfl rfl trivial rfl rfl rfl rfl rfl tw_IA (by decide +kernel) ⟨rfl, rfl⟩
    refine mx_if mo_Pe_reachWithin 2 (t := 16) (f := 9) rfl trivial (fun q1 => fin (Or.inl q1)) (fun (q1 : ¬ lim < 1) => ?_)
    refine mx_if mo_Pe_reachWithin 2 (t := 26) (f := 16) rfl trivial (fun (q2 : lim ≤ 500) => ?_) (fun (q2 : ¬ lim ≤ 500) => fin (Or.inr q2))
    have q3 : ¬ (lim < 1 ∨ ¬ lim ≤ 500) := fun c => c.elim q1 (fun c => c q2)
    obtain ⟨L, h1, h5, rfl⟩ := pe_lim q3
    rw [if_neg q3, nI_clamp (by omega)]
    refine mx_cVv mo_Pe_reachWithin 7 (As := [.ref 5, .int (M 0 5), .int (nI L)]) (rest := []) rfl (ct_Re_run hl (M 0 5) h1 h5 hJ hs) rfl trivial rfl rfl rfl kv_Pe_201 kd_Re_run rfl rfl rfl ?_
    exact mx_ret_v mo_Pe_reachWithin rfl 0 rfl trivial rfl ⟨rfl, rfl⟩
  · rw [pe_rw, if_pos (Classical.byContradiction q)]
    exact ⟨rfl, rfl⟩
section
variable {Y : mx_Y} {fl : mx_F} {tab : mx_B}
/-- a method that first reaches -/
theorem mx_rw (hl : l.stackTraces = false) (hok : mx_ok Y fl tab) {Z : mx_R × mx_M} {J : Nat} {ls : List Value} (hJ : J ≤ 120) (hs : M 5 5 = nI J) (hf : M 1 4 = 0 ∨ M 1 4 = 1) (lim : Int32) (hh : mx_hh Y = []) (ho : mx_ow Y = "PegBoards")
    (h : mx_run fl (pg_L sc) tab 2 0 ls [] M = some (True, 2, ls, [.int lim, .ref 0], M)) (hd : tab.lookup 2 = some (.invokevirtual 129, 3))
    (kr : ¬ M 1 4 = 0 → ∀ L, 1 ≤ L → L ≤ 500 → lim = nI L → mx_E l (pg_L sc) Y (d + 6) 0 (mx_rA Z.1 Z.2) 5 ls [] (pe_go M L J)) : mx_E l (pg_L sc) Y (d + 6) 2 (mx_rA (pe_rw M lim Z).1 (pe_rw M lim Z).2) 0 ls [] M := by
  refine mx_cV (n := 0) (n' := 2) hok 2 (As := [.int lim]) (rest := []) hh (ct_Pe_reachWithin (d := d) hl hJ hs hf lim) h trivial hd rfl rfl (by rw [ho]; exact kv_Pe_129) kd_Pe_reachWithin rfl rfl rfl (fun v M2 q => ?_) (fun E M2 q => ?_)
  · obtain ⟨q1, q2⟩ := q
    unfold pe_rw at q1 q2 ⊢
    by_cases c1 : M 1 4 = 0
    · rw [if_pos c1] at q1; cases q1
    rw [if_neg c1] at q1 q2 ⊢
    by_cases c2 : lim < 1 ∨ ¬ lim ≤ 500
    · rw [if_pos c2] at q1; cases q1
    rw [if_neg c2] at q1 q2 ⊢
    cases q1
    obtain ⟨L, h1, h5, rfl⟩ := pe_lim c2
    rw [nI_clamp (by omega)] at q2
    subst q2
    exact kr c1 L h1 h5 rfl
  · obtain ⟨q1, q2⟩ := q
    unfold pe_rw at q1 q2 ⊢
    by_cases c1 : M 1 4 = 0
    · rw [if_pos c1] at q1 q2 ⊢; exact ⟨q1, q2⟩
    rw [if_neg c1] at q1 q2 ⊢
    by_cases c2 : lim < 1 ∨ ¬ lim ≤ 500
    · rw [if_pos c2] at q1 q2 ⊢; exact ⟨q1, q2⟩
    rw [if_neg c2] at q1; cases q1
end
theorem pe_go_off {L J c : Nat} (hc : c < 27 ∨ 37 < c ∨ c = 31 ∨ c = 32 ∨ c = 33) : pe_go M L J c = M c := by
  rw [pe_go, re_all_off hc, re_s0_off (by omega)]
theorem pe_go_ok {L J : Nat} (h1 : 1 ≤ L) (h5 : L ≤ 500) : re_ok (pe_go M L J) L := (re_all_ok L 0 _ (re_s0_ok h1 h5).1).1
def pe_count (A : mx_M) : mx_R × mx_M := (.inl (some (.int (if A 27 6 = 0 then A 28 2 else -2))), A)
theorem ct_Pe_count (hl : l.stackTraces = false) {J : Nat} (hJ : J ≤ 120) (hs : M 5 5 = nI J) (hf : M 1 4 = 0 ∨ M 1 4 = 1) (lim : Int32) : mx_Ct l (pg_L sc) mY_Pe_count (d + 6) 2 [.ref 0, .int lim] M (mx_rA (pe_rw M lim (pe_count (pe_go M lim.toNatClampNeg J))).1 (pe_rw M lim (pe_count (pe_go M lim.toNatClampNeg J))).2) := by
  refine mx_bd (n0 := 2) hl (by decide +kernel) rfl rfl rfl ?_
  refine mx_rw hl mo_Pe_count hJ hs hf lim rfl rfl rfl rfl (fun _ L h1 h5 e => ?_)
  subst e
  rw [nI_clamp (by omega)]
  have hk := pe_go_ok (M := M) (J := J) h1 h5
  generalize pe_go M L J = A at hk ⊢
  refine mx_cVi mo_Pe_count 2 (As := []) (rest := []) rfl (ct_Re_limitMet hl hk.2.1) rfl trivial rfl rfl rfl kv_Pe_132 kd_Re_limitMet rfl rfl rfl ?_
  refine mx_if mo_Pe_count 0 (t := 20) (f := 15) rfl trivial (fun q => ?_) (fun q => ?_)
  · refine mx_cVi mo_Pe_count 2 (As := []) (rest := []) rfl (ct_Re_size hl) rfl trivial rfl rfl rfl kv_Pe_135 kd_Re_size rfl rfl rfl ?_
    exact mx_ret_i mo_Pe_count rfl 0 rfl trivial rfl ⟨by rw [pe_count, if_pos q], rfl⟩
  · exact mx_ret_i mo_Pe_count rfl 2 (v := -2) rfl trivial rfl ⟨by rw [pe_count, if_neg q], rfl⟩
def pe_solve (A : mx_M) : mx_R × mx_M := (.inl (some (.int (if re_no A (A 0 6) = -1 then (if A 27 6 = 0 then 0 else -2) else 1))), A)
theorem ct_Pe_solve (hl : l.stackTraces = false) {J : Nat} (hJ : J ≤ 120) (hs : M 5 5 = nI J) (hf : M 1 4 = 0 ∨ M 1 4 = 1) (lim : Int32) : mx_Ct l (pg_L sc) mY_Pe_solve (d + 6) 2 [.ref 0, .int lim] M (mx_rA (pe_rw M lim (pe_solve (pe_go M lim.toNatClampNeg J))).1 (pe_rw M lim (pe_solve (pe_go M lim.toNatClampNeg J))).2) := by
  refine mx_bd (n0 := 2) hl (by decide +kernel) rfl rfl rfl ?_
  refine mx_rw hl mo_Pe_solve hJ hs hf lim rfl rfl rfl rfl (fun _ L h1 h5 e => ?_)
  subst e
  rw [nI_clamp (by omega)]
  have hk := pe_go_ok (M := M) (J := J) h1 h5
  generalize pe_go M L J = A at hk ⊢
  rw [pe_solve]
  refine mx_cVi mo_Pe_solve 4 (As := [.int (A 0 6)]) (rest := []) rfl (ct_Re_has hl (re_ok_fo hk) (A 0 6)) rfl trivial rfl rfl rfl kv_Pe_136 kd_Re_has rfl rfl rfl ?_
  by_cases c : re_no A (A 0 6) = -1
  · rw [if_pos c, if_pos c]
    refine mx_if mo_Pe_solve 0 (t := 21) (f := 19) rfl trivial (fun _ => ?_) (fun q => absurd rfl q)
    refine mx_cVi mo_Pe_solve 2 (As := []) (rest := []) rfl (ct_Re_limitMet hl hk.2.1) rfl trivial rfl rfl rfl kv_Pe_132 kd_Re_limitMet rfl rfl rfl ?_
    refine mx_if mo_Pe_solve 0 (t := 36) (f := 31) rfl trivial (fun q => ?_) (fun q => ?_)
    · exact mx_ret_i mo_Pe_solve rfl 1 (v := 0) rfl trivial rfl ⟨by rw [if_pos q], rfl⟩
    · exact mx_ret_i mo_Pe_solve rfl 2 (v := -2) rfl trivial rfl ⟨by rw [if_neg q], rfl⟩
  · rw [if_neg c, if_neg c]
    refine mx_if mo_Pe_solve 0 (t := 21) (f := 19) rfl trivial (fun (q : (1 : Int32) = 0) => absurd q (by decide)) (fun _ => ?_)
    exact mx_ret_i mo_Pe_solve rfl 1 (v := 1) rfl trivial rfl ⟨rfl, rfl⟩
theorem ct_Pe_way (hl : l.stackTraces = false) {J : Nat} (hJ : J ≤ 120) (hs : M 5 5 = nI J) (hf : M 1 4 = 0 ∨ M 1 4 = 1) (lim i v : Int32)
    (hw : ¬ M 1 4 = 0 → ∀ L, 1 ≤ L → L ≤ 500 → lim = nI L → mx_Ct l (pg_L sc) mY_Re_jumpOnWay (d + 5) 0 [.ref 27, .int (M 0 5), .int (M 0 6), .int i] (pe_go M L J) (mx_rI v (pe_go M L J))) :
    mx_Ct l (pg_L sc) mY_Pe_way (d + 6) 2 [.ref 0, .int lim, .int i] M (mx_rA (pe_rw M lim (.inl (some (.int v)), pe_go M lim.toNatClampNeg J)).1 (pe_rw M lim (.inl (some (.int v)), pe_go M lim.toNatClampNeg J)).2) := by
  refine mx_bd (n0 := 3) hl (by decide +kernel) rfl rfl rfl ?_
  refine mx_rw hl mo_Pe_way hJ hs hf lim rfl rfl rfl rfl (fun c L h1 h5 e => ?_)
  have hww := hw c L h1 h5 e
  have e0 : pe_go M L J 0 = M 0 := pe_go_off (by omega)
  subst e
  rw [nI_clamp (by omega)]
  rw [← e0] at hww
  generalize pe_go M L J = A at hww ⊢
  refine mx_cVi mo_Pe_way 7 (As := [.int (A 0 5), .int (A 0 6), .int i]) (rest := []) rfl hww rfl trivial rfl rfl rfl kv_Pe_140 kd_Re_jumpOnWay rfl rfl rfl ?_
  exact mx_ret_i mo_Pe_way rfl 0 rfl trivial rfl ⟨rfl, rfl⟩
def pe_moves (A : mx_M) : mx_R × mx_M := (.inl (some (.int (if A 27 6 = 0 then (if re_no A (A 0 6) = -1 then -1 else A 36 (re_no A (A 0 6)).toNatClampNeg) else -2))), A)
theorem ct_Pe_moves (hl : l.stackTraces = false) {J : Nat} (hJ : J ≤ 120) (hs : M 5 5 = nI J) (hf : M 1 4 = 0 ∨ M 1 4 = 1) (lim : Int32) : mx_Ct l (pg_L sc) mY_Pe_moves (d + 6) 2 [.ref 0, .int lim] M (mx_rA (pe_rw M lim (pe_moves (pe_go M lim.toNatClampNeg J))).1 (pe_rw M lim (pe_moves (pe_go M lim.toNatClampNeg J))).2) := by
  refine mx_bd (n0 := 2) hl (by decide +kernel) rfl rfl rfl ?_
  refine mx_rw hl mo_Pe_moves hJ hs hf lim rfl rfl rfl rfl (fun _ L h1 h5 e => ?_)
  subst e
  rw [nI_clamp (by omega)]
  have hk := pe_go_ok (M := M) (J := J) h1 h5
  generalize pe_go M L J = A at hk ⊢
  rw [pe_moves]
  refine mx_cVi mo_Pe_moves 2 (As := []) (rest := []) rfl (ct_Re_limitMet hl hk.2.1) rfl trivial rfl rfl rfl kv_Pe_132 kd_Re_limitMet rfl rfl rfl ?_
  refine mx_if mo_Pe_moves 0 (t := 20) (f := 15) rfl trivial (fun q => ?_) (fun q => ?_)
  · have hn : re_no A (A 0 6) = -1 ∨ ∃ i, i < 500 ∧ re_no A (A 0 6) = nI i := by
      rcases re_no_in hk (A 0 6) with ⟨-, q⟩ | ⟨i, hi, -, q⟩
      · exact Or.inl q
      · obtain ⟨-, -, m, h3, h4, -⟩ := hk
        rw [h4, nI_clamp (by omega)] at hi
        exact Or.inr ⟨i, by omega, q⟩
    refine mx_cVi mo_Pe_moves 4 (As := [.int (A 0 6)]) (rest := []) rfl (ct_Re_fewestMoves hl (re_ok_fo hk) (A 0 6) hn) rfl trivial rfl rfl rfl kv_Pe_144 kd_Re_fewestMoves rfl rfl rfl ?_
    rw [if_pos q]
    exact mx_ret_i mo_Pe_moves rfl 0 rfl trivial rfl ⟨rfl, rfl⟩
  · exact mx_ret_i mo_Pe_moves rfl 2 (v := -2) rfl trivial rfl ⟨by rw [if_neg q], rfl⟩
def pe_classes (A : mx_M) (n s : Nat) : mx_R × mx_M := if A 27 6 = 0 then (.inl (some (.int (nI (le_c (fun i => sy_lo A (A 29 i) n s) (A 28 2).toNatClampNeg)))), re_ls A (fun i => sy_lo A (A 29 i) n s) (A 28 2).toNatClampNeg) else (.inl (some (.int (-2))), A)
theorem ct_Pe_classes (hl : l.stackTraces = false) {J s n : Nat} (hJ : J ≤ 120) (hs : M 5 5 = nI J) (hf : M 1 4 = 0 ∨ M 1 4 = 1) (lim : Int32) (hy : ¬ M 1 4 = 0 → n ≤ 20 ∧ s ≤ 12 ∧ M 11 3 = nI n ∧ M 11 4 = nI s) : mx_Ct l (pg_L sc) mY_Pe_classes (d + 6) 2 [.ref 0, .int lim] M (mx_rA (pe_rw M lim (pe_classes (pe_go M lim.toNatClampNeg J) n s)).1 (pe_rw M lim (pe_classes (pe_go M lim.toNatClampNeg J) n s)).2) := by
  refine mx_bd (n0 := 2) hl (by decide +kernel) rfl rfl rfl ?_
  refine mx_rw hl mo_Pe_classes hJ hs hf lim rfl rfl rfl rfl (fun c L h1 h5 e => ?_)
  obtain ⟨y1, y2, y3, y4⟩ := hy c
  subst e
  rw [nI_clamp (by omega)]
  have hk := pe_go_ok (M := M) (J := J) h1 h5
  have e0 : pe_go M L J 11 = M 11 := pe_go_off (by omega)
  rw [← e0] at y3 y4
  generalize pe_go M L J = A at hk y3 y4 ⊢
  rw [pe_classes]
  refine mx_cVi mo_Pe_classes 2 (As := []) (rest := []) rfl (ct_Re_limitMet hl hk.2.1) rfl trivial rfl rfl rfl kv_Pe_132 kd_Re_limitMet rfl rfl rfl ?_
  refine mx_if mo_Pe_classes 0 (t := 20) (f := 15) rfl trivial (fun q => ?_) (fun q => ?_)
  · rw [if_pos q]
    obtain ⟨-, -, m, h3, h4, -⟩ := hk
    rw [h4, nI_clamp (by omega)]
    refine mx_cVi mo_Pe_classes 4 (As := [.ref 11]) (rest := []) rfl (ct_Re_differentLeasts hl y1 y2 y3 y4 (by omega) h4) rfl trivial rfl rfl rfl kv_Pe_147 kd_Re_differentLeasts rfl rfl rfl ?_
    exact mx_ret_i mo_Pe_classes rfl 0 rfl trivial rfl ⟨rfl, rfl⟩
  · rw [if_neg q]
    exact mx_ret_i mo_Pe_classes rfl 2 (v := -2) rfl trivial rfl ⟨rfl, rfl⟩
end FB
