/-! Printed by wip/whole/gen_law.py: the wrappers of the law: words and contracts. -/
section WR
variable {l : Launch} {sc : Nat × (Nat → Int32)} {d : Nat} {M M1 : mx_M} {r : mx_R} {th b : Int32}
theorem vp01 : vp_in 0 1 := by unfold vp_in; decide
theorem mx_ct_i {Y : mx_Y} {pc i hp : Nat} {E nm : String} {q : Nat × Nat × Nat × Nat} (hq : (mx_hh Y)[i]? = some q) (h1 : q.1 ≤ pc) (h2 : pc < q.2.1) (h3 : q.2.2.1 = hp) (h4 : q.2.2.2 ≠ 0) (h5 : Cond.classLink (mx_ow Y) q.2.2.2 nm ∈ mx_WS) (h6 : Cond.castable E nm ∈ mx_NW)
    (h7 : ∀ z ∈ (mx_hh Y).take i, z.2.2.2 ≠ 0 ∧ ∃ w ∈ mx_nx, Cond.classLink (mx_ow Y) z.2.2.2 w ∈ mx_WS ∧ (E, w) ∈ mx_NC) : mx_ctb Y pc E nm i hp = true := by
  unfold mx_ctb
  rw [hq]
  simp only [Bool.and_eq_true, decide_eq_true_eq, List.all_eq_true, List.any_eq_true]
  exact ⟨⟨⟨⟨⟨⟨h1, h2⟩, h3⟩, h4⟩, h5⟩, h6⟩, h7⟩
theorem wi_La : Cond.initialized "PegBoardsLaw" ∈ mx_WS := mx_in 40 (by decide +kernel) rfl
theorem wk_La_13 : Cond.classLink "PegBoardsLaw" 13 "java/lang/IllegalArgumentException" ∈ mx_WS := mx_in 267 (by decide +kernel) rfl
theorem wk_cast_IA : Cond.castable "java/lang/IllegalArgumentException" "java/lang/IllegalArgumentException" ∈ mx_NW := mx_inN 276 (by decide +kernel) rfl
theorem wk_La_15 : Cond.classLink "PegBoardsLaw" 15 "java/lang/IllegalStateException" ∈ mx_WS := mx_in 268 (by decide +kernel) rfl
theorem wk_cast_IS : Cond.castable "java/lang/IllegalStateException" "java/lang/IllegalStateException" ∈ mx_NW := mx_inN 348 (by decide +kernel) rfl
theorem wk_La_24 : Cond.classLink "PegBoardsLaw" 24 "java/lang/IndexOutOfBoundsException" ∈ mx_WS := mx_in 463 (by decide +kernel) rfl
theorem wk_cast_IO : Cond.castable "java/lang/IndexOutOfBoundsException" "java/lang/IndexOutOfBoundsException" ∈ mx_NW := mx_inN 474 (by decide +kernel) rfl
theorem wl_La_78 : Cond.methodLink "PegBoardsLaw" 78 ⟨"PegBoardsLaw", "hole", "(LPegBoards;II[J)I"⟩ ∈ mx_WS := mx_in 264 (by decide +kernel) rfl
theorem wt_La_hole : Cond.static ⟨"PegBoardsLaw", "hole", "(LPegBoards;II[J)I"⟩ ∈ mx_WS := mx_in 265 (by decide +kernel) rfl
theorem wc_La_hole : Cond.codeWith ⟨"PegBoardsLaw", "hole", "(LPegBoards;II[J)I"⟩ method_3_code 5 (some .int) [(0, 10, 13, 13), (0, 10, 17, 15)] ∈ mx_WS := mx_in 266 (by decide +kernel) rfl
theorem kw_La_hole : mx_cdbW mY_La_hole 4 = true := by
  simp only [mx_cdbW, Bool.and_eq_true, decide_eq_true_eq]
  exact ⟨⟨⟨⟨⟨wi_La, wc_La_hole⟩, by decide +kernel⟩, by decide +kernel⟩, by decide +kernel⟩, by decide +kernel⟩
theorem ks_La_78 : mx_csb "PegBoardsLaw" 78 mY_La_hole = true := by
  simp only [mx_csb, Bool.and_eq_true, decide_eq_true_eq]
  exact ⟨wl_La_78, wt_La_hole⟩
theorem kt_La_hole_0 : mx_ctb mY_La_hole 5 "java/lang/IllegalArgumentException" "java/lang/IllegalArgumentException" 0 13 = true := mx_ct_i (q := (0, 10, 13, 13)) rfl (by decide) (by decide) rfl (by decide) wk_La_13 wk_cast_IA (fun z hz => by cases hz)
theorem kt_La_hole_1 : mx_ctb mY_La_hole 5 "java/lang/IllegalStateException" "java/lang/IllegalStateException" 1 17 = true := mx_ct_i (q := (0, 10, 17, 15)) rfl (by decide) (by decide) rfl (by decide) wk_La_15 wk_cast_IS (fun z hz => by
    have hz : z ∈ [(0, 10, 13, 13)] := hz
    obtain rfl := List.mem_singleton.mp hz
    exact ⟨by decide, "java/lang/IllegalArgumentException", by decide, wk_La_13, by decide⟩)
set_option maxRecDepth 4000 in
theorem wr_hole (hl : l.stackTraces = false) (a1 : Int32) (a2 : Int32) (hM : mx_Ct l (pg_L sc) mY_Pe_hole d 1 [.ref 0, .int a1, .int a2] M (mx_rA r M1)) (h : ag r xIA xIS th b) : mx_Ct l (pg_L sc) mY_La_hole (d + 1) 1 [.ref 0, .int a1, .int a2, .ref 60] M (mx_rI th (wrM r M1)) := by
  refine mx_bdW (n0 := 4) hl rfl rfl rfl rfl ?_
  refine mx_cVX (n := 0) (n0 := 2) (As := [.int a1, .int a2]) (rest := [.int 0, .ref 60]) mo_La_hole 5 hM rfl trivial rfl rfl rfl kv_La_7 kd_Pe_hole rfl rfl rfl ?_ ?_
  · rintro v M2 ⟨q1, rfl⟩
    rcases h with ⟨e1, e2⟩ | ⟨e1, e2⟩ | ⟨e1, e2⟩ <;> rw [e1] at q1 <;> cases q1
    subst e2
    rw [show wrM r M2 = mx_up M2 60 0 b from by rw [e1]; rfl]
    refine mx_i2l mo_La_hole 0 rfl trivial rfl ?_
    refine mx_last (v := b) mo_La_hole 0 rfl trivial rfl rfl vp01 rfl ?_
    exact mx_ret_i mo_La_hole rfl 2 rfl trivial rfl ⟨rfl, rfl⟩
  · rintro E M2 ⟨q1, rfl⟩
    rcases h with ⟨e1, e2⟩ | ⟨e1, e2⟩ | ⟨e1, e2⟩ <;> rw [e1] at q1 <;> cases q1
    · subst e2
      rw [show wrM r M2 = M2 from by rw [e1]; rfl]
      refine ⟨_, 0, 13, 4, 2, kt_La_hole_0, Or.inr ⟨rfl, rfl⟩, by decide, ?_⟩
      exact mx_ret_i mo_La_hole rfl 1 rfl trivial rfl ⟨rfl, rfl⟩
    · subst e2
      rw [show wrM r M2 = M2 from by rw [e1]; rfl]
      refine ⟨_, 1, 17, 4, 2, kt_La_hole_1, Or.inr ⟨rfl, rfl⟩, by decide, ?_⟩
      exact mx_ret_i mo_La_hole rfl 1 rfl trivial rfl ⟨rfl, rfl⟩
theorem wl_La_87 : Cond.methodLink "PegBoardsLaw" 87 ⟨"PegBoardsLaw", "freeze", "(LPegBoards;[J)I"⟩ ∈ mx_WS := mx_in 366 (by decide +kernel) rfl
theorem wt_La_freeze : Cond.static ⟨"PegBoardsLaw", "freeze", "(LPegBoards;[J)I"⟩ ∈ mx_WS := mx_in 367 (by decide +kernel) rfl
theorem wc_La_freeze : Cond.codeWith ⟨"PegBoardsLaw", "freeze", "(LPegBoards;[J)I"⟩ method_4_code 3 (some .int) [(0, 8, 11, 15)] ∈ mx_WS := mx_in 368 (by decide +kernel) rfl
theorem kw_La_freeze : mx_cdbW mY_La_freeze 2 = true := by
  simp only [mx_cdbW, Bool.and_eq_true, decide_eq_true_eq]
  exact ⟨⟨⟨⟨⟨wi_La, wc_La_freeze⟩, by decide +kernel⟩, by decide +kernel⟩, by decide +kernel⟩, by decide +kernel⟩
theorem ks_La_87 : mx_csb "PegBoardsLaw" 87 mY_La_freeze = true := by
  simp only [mx_csb, Bool.and_eq_true, decide_eq_true_eq]
  exact ⟨wl_La_87, wt_La_freeze⟩
theorem kt_La_freeze_0 : mx_ctb mY_La_freeze 3 "java/lang/IllegalStateException" "java/lang/IllegalStateException" 0 11 = true := mx_ct_i (q := (0, 8, 11, 15)) rfl (by decide) (by decide) rfl (by decide) wk_La_15 wk_cast_IS (fun z hz => by cases hz)
set_option maxRecDepth 4000 in
theorem wr_freeze (hl : l.stackTraces = false) (hM : mx_Ct l (pg_L sc) mY_Pe_freeze d 1 [.ref 0] M (mx_rA r M1)) (h : ag1 r xIS th b) : mx_Ct l (pg_L sc) mY_La_freeze (d + 1) 1 [.ref 0, .ref 60] M (mx_rI th (wrM r M1)) := by
  refine mx_bdW (n0 := 2) hl rfl rfl rfl rfl ?_
  refine mx_cVX (n := 0) (n0 := 0) (As := []) (rest := [.int 0, .ref 60]) mo_La_freeze 3 hM rfl trivial rfl rfl rfl kv_La_17 kd_Pe_freeze rfl rfl rfl ?_ ?_
  · rintro v M2 ⟨q1, rfl⟩
    rcases h with ⟨e1, e2⟩ | ⟨e1, e2⟩ <;> rw [e1] at q1 <;> cases q1
    subst e2
    rw [show wrM r M2 = mx_up M2 60 0 b from by rw [e1]; rfl]
    refine mx_i2l mo_La_freeze 0 rfl trivial rfl ?_
    refine mx_last (v := b) mo_La_freeze 0 rfl trivial rfl rfl vp01 rfl ?_
    exact mx_ret_i mo_La_freeze rfl 2 rfl trivial rfl ⟨rfl, rfl⟩
  · rintro E M2 ⟨q1, rfl⟩
    rcases h with ⟨e1, e2⟩ | ⟨e1, e2⟩ <;> rw [e1] at q1 <;> cases q1
    · subst e2
      rw [show wrM r M2 = M2 from by rw [e1]; rfl]
      refine ⟨_, 0, 11, 2, 1, kt_La_freeze_0, Or.inl ⟨2, rfl, rfl, rfl⟩, by decide, ?_⟩
      exact mx_ret_i mo_La_freeze rfl 1 rfl trivial rfl ⟨rfl, rfl⟩
theorem wl_La_95 : Cond.methodLink "PegBoardsLaw" 95 ⟨"PegBoardsLaw", "jump", "(LPegBoards;II[J)I"⟩ ∈ mx_WS := mx_in 460 (by decide +kernel) rfl
theorem wt_La_jump : Cond.static ⟨"PegBoardsLaw", "jump", "(LPegBoards;II[J)I"⟩ ∈ mx_WS := mx_in 461 (by decide +kernel) rfl
theorem wc_La_jump : Cond.codeWith ⟨"PegBoardsLaw", "jump", "(LPegBoards;II[J)I"⟩ method_5_code 5 (some .int) [(0, 10, 13, 24)] ∈ mx_WS := mx_in 462 (by decide +kernel) rfl
theorem kw_La_jump : mx_cdbW mY_La_jump 4 = true := by
  simp only [mx_cdbW, Bool.and_eq_true, decide_eq_true_eq]
  exact ⟨⟨⟨⟨⟨wi_La, wc_La_jump⟩, by decide +kernel⟩, by decide +kernel⟩, by decide +kernel⟩, by decide +kernel⟩
theorem ks_La_95 : mx_csb "PegBoardsLaw" 95 mY_La_jump = true := by
  simp only [mx_csb, Bool.and_eq_true, decide_eq_true_eq]
  exact ⟨wl_La_95, wt_La_jump⟩
theorem kt_La_jump_0 : mx_ctb mY_La_jump 5 "java/lang/IndexOutOfBoundsException" "java/lang/IndexOutOfBoundsException" 0 13 = true := mx_ct_i (q := (0, 10, 13, 24)) rfl (by decide) (by decide) rfl (by decide) wk_La_24 wk_cast_IO (fun z hz => by cases hz)
set_option maxRecDepth 4000 in
theorem wr_jump (hl : l.stackTraces = false) (a1 : Int32) (a2 : Int32) (hM : mx_Ct l (pg_L sc) mY_Pe_jump d 2 [.ref 0, .int a1, .int a2] M (mx_rA r M1)) (h : ag1 r xIO th b) : mx_Ct l (pg_L sc) mY_La_jump (d + 1) 2 [.ref 0, .int a1, .int a2, .ref 60] M (mx_rI th (wrM r M1)) := by
  refine mx_bdW (n0 := 4) hl rfl rfl rfl rfl ?_
  refine mx_cVX (n := 0) (n0 := 2) (As := [.int a1, .int a2]) (rest := [.int 0, .ref 60]) mo_La_jump 5 hM rfl trivial rfl rfl rfl kv_La_21 kd_Pe_jump rfl rfl rfl ?_ ?_
  · rintro v M2 ⟨q1, rfl⟩
    rcases h with ⟨e1, e2⟩ | ⟨e1, e2⟩ <;> rw [e1] at q1 <;> cases q1
    subst e2
    rw [show wrM r M2 = mx_up M2 60 0 b from by rw [e1]; rfl]
    refine mx_i2l mo_La_jump 0 rfl trivial rfl ?_
    refine mx_last (v := b) mo_La_jump 0 rfl trivial rfl rfl vp01 rfl ?_
    exact mx_ret_i mo_La_jump rfl 2 rfl trivial rfl ⟨rfl, rfl⟩
  · rintro E M2 ⟨q1, rfl⟩
    rcases h with ⟨e1, e2⟩ | ⟨e1, e2⟩ <;> rw [e1] at q1 <;> cases q1
    · subst e2
      rw [show wrM r M2 = M2 from by rw [e1]; rfl]
      refine ⟨_, 0, 13, 4, 2, kt_La_jump_0, Or.inr ⟨rfl, rfl⟩, by decide, ?_⟩
      exact mx_ret_i mo_La_jump rfl 1 rfl trivial rfl ⟨rfl, rfl⟩
theorem wl_La_98 : Cond.methodLink "PegBoardsLaw" 98 ⟨"PegBoardsLaw", "place", "(LPegBoards;ZI)I"⟩ ∈ mx_WS := mx_in 501 (by decide +kernel) rfl
theorem wt_La_place : Cond.static ⟨"PegBoardsLaw", "place", "(LPegBoards;ZI)I"⟩ ∈ mx_WS := mx_in 502 (by decide +kernel) rfl
theorem wc_La_place : Cond.codeWith ⟨"PegBoardsLaw", "place", "(LPegBoards;ZI)I"⟩ method_6_code 4 (some .int) [(0, 6, 9, 13)] ∈ mx_WS := mx_in 503 (by decide +kernel) rfl
theorem kw_La_place : mx_cdbW mY_La_place 3 = true := by
  simp only [mx_cdbW, Bool.and_eq_true, decide_eq_true_eq]
  exact ⟨⟨⟨⟨⟨wi_La, wc_La_place⟩, by decide +kernel⟩, by decide +kernel⟩, by decide +kernel⟩, by decide +kernel⟩
theorem ks_La_98 : mx_csb "PegBoardsLaw" 98 mY_La_place = true := by
  simp only [mx_csb, Bool.and_eq_true, decide_eq_true_eq]
  exact ⟨wl_La_98, wt_La_place⟩
theorem kt_La_place_0 : mx_ctb mY_La_place 3 "java/lang/IllegalArgumentException" "java/lang/IllegalArgumentException" 0 9 = true := mx_ct_i (q := (0, 6, 9, 13)) rfl (by decide) (by decide) rfl (by decide) wk_La_13 wk_cast_IA (fun z hz => by cases hz)
set_option maxRecDepth 4000 in
theorem wr_place (hl : l.stackTraces = false) (a1 : Int32) (a2 : Int32) (hp : a1 = 0 ∨ a1 = 1) (hM : mx_Ct l (pg_L sc) mY_Pe_place d 1 [.ref 0, .int a1, .int a2] M (mx_rA r M1)) (h : agv1 r xIA th) : mx_Ct l (pg_L sc) mY_La_place (d + 1) 1 [.ref 0, .int a1, .int a2] M (mx_rI th (wrM r M1)) := by
  refine mx_bdW (n0 := 3) hl rfl rfl rfl rfl ?_
  refine mx_cVX (n := 0) (n0 := 2) (As := [.int a1, .int a2]) (rest := []) mo_La_place 3 hM rfl trivial rfl rfl rfl kv_La_26 kd_Pe_place rfl rfl rfl ?_ ?_
  · rintro v M2 ⟨q1, rfl⟩
    rcases h with ⟨e1, e2⟩ | ⟨e1, e2⟩ <;> rw [e1] at q1 <;> cases q1
    subst e2
    rw [show wrM r M2 = M2 from by rw [e1]; rfl]
    exact mx_ret_i mo_La_place rfl 2 rfl trivial rfl ⟨rfl, rfl⟩
  · rintro E M2 ⟨q1, rfl⟩
    rcases h with ⟨e1, e2⟩ | ⟨e1, e2⟩ <;> rw [e1] at q1 <;> cases q1
    · subst e2
      rw [show wrM r M2 = M2 from by rw [e1]; rfl]
      refine ⟨_, 0, 9, 3, 1, kt_La_place_0, Or.inl ⟨3, rfl, rfl, rfl⟩, by decide, ?_⟩
      exact mx_ret_i mo_La_place rfl 1 rfl trivial rfl ⟨rfl, rfl⟩
theorem wl_La_102 : Cond.methodLink "PegBoardsLaw" 102 ⟨"PegBoardsLaw", "after", "(LPegBoards;II[J)I"⟩ ∈ mx_WS := mx_in 517 (by decide +kernel) rfl
theorem wt_La_after : Cond.static ⟨"PegBoardsLaw", "after", "(LPegBoards;II[J)I"⟩ ∈ mx_WS := mx_in 518 (by decide +kernel) rfl
theorem wc_La_after : Cond.codeWith ⟨"PegBoardsLaw", "after", "(LPegBoards;II[J)I"⟩ method_7_code 5 (some .int) [(0, 10, 13, 24), (0, 10, 17, 13)] ∈ mx_WS := mx_in 519 (by decide +kernel) rfl
theorem kw_La_after : mx_cdbW mY_La_after 4 = true := by
  simp only [mx_cdbW, Bool.and_eq_true, decide_eq_true_eq]
  exact ⟨⟨⟨⟨⟨wi_La, wc_La_after⟩, by decide +kernel⟩, by decide +kernel⟩, by decide +kernel⟩, by decide +kernel⟩
theorem ks_La_102 : mx_csb "PegBoardsLaw" 102 mY_La_after = true := by
  simp only [mx_csb, Bool.and_eq_true, decide_eq_true_eq]
  exact ⟨wl_La_102, wt_La_after⟩
theorem kt_La_after_0 : mx_ctb mY_La_after 5 "java/lang/IndexOutOfBoundsException" "java/lang/IndexOutOfBoundsException" 0 13 = true := mx_ct_i (q := (0, 10, 13, 24)) rfl (by decide) (by decide) rfl (by decide) wk_La_24 wk_cast_IO (fun z hz => by cases hz)
theorem kt_La_after_1 : mx_ctb mY_La_after 5 "java/lang/IllegalArgumentException" "java/lang/IllegalArgumentException" 1 17 = true := mx_ct_i (q := (0, 10, 17, 13)) rfl (by decide) (by decide) rfl (by decide) wk_La_13 wk_cast_IA (fun z hz => by
    have hz : z ∈ [(0, 10, 13, 24)] := hz
    obtain rfl := List.mem_singleton.mp hz
    exact ⟨by decide, "java/lang/IndexOutOfBoundsException", by decide, wk_La_24, by decide⟩)
set_option maxRecDepth 4000 in
theorem wr_after (hl : l.stackTraces = false) (a1 : Int32) (a2 : Int32) (hM : mx_Ct l (pg_L sc) mY_Pe_after d 2 [.ref 0, .int a1, .int a2] M (mx_rA r M1)) (h : ag r xIO xIA th b) : mx_Ct l (pg_L sc) mY_La_after (d + 1) 2 [.ref 0, .int a1, .int a2, .ref 60] M (mx_rI th (wrM r M1)) := by
  refine mx_bdW (n0 := 4) hl rfl rfl rfl rfl ?_
  refine mx_cVX (n := 0) (n0 := 2) (As := [.int a1, .int a2]) (rest := [.int 0, .ref 60]) mo_La_after 5 hM rfl trivial rfl rfl rfl kv_La_30 kd_Pe_after rfl rfl rfl ?_ ?_
  · rintro v M2 ⟨q1, rfl⟩
    rcases h with ⟨e1, e2⟩ | ⟨e1, e2⟩ | ⟨e1, e2⟩ <;> rw [e1] at q1 <;> cases q1
    subst e2
    rw [show wrM r M2 = mx_up M2 60 0 b from by rw [e1]; rfl]
    refine mx_i2l mo_La_after 0 rfl trivial rfl ?_
    refine mx_last (v := b) mo_La_after 0 rfl trivial rfl rfl vp01 rfl ?_
    exact mx_ret_i mo_La_after rfl 2 rfl trivial rfl ⟨rfl, rfl⟩
  · rintro E M2 ⟨q1, rfl⟩
    rcases h with ⟨e1, e2⟩ | ⟨e1, e2⟩ | ⟨e1, e2⟩ <;> rw [e1] at q1 <;> cases q1
    · subst e2
      rw [show wrM r M2 = M2 from by rw [e1]; rfl]
      refine ⟨_, 0, 13, 4, 2, kt_La_after_0, Or.inr ⟨rfl, rfl⟩, by decide, ?_⟩
      exact mx_ret_i mo_La_after rfl 1 rfl trivial rfl ⟨rfl, rfl⟩
    · subst e2
      rw [show wrM r M2 = M2 from by rw [e1]; rfl]
      refine ⟨_, 1, 17, 4, 2, kt_La_after_1, Or.inr ⟨rfl, rfl⟩, by decide, ?_⟩
      exact mx_ret_i mo_La_after rfl 1 rfl trivial rfl ⟨rfl, rfl⟩
theorem wl_La_105 : Cond.methodLink "PegBoardsLaw" 105 ⟨"PegBoardsLaw", "count", "(LPegBoards;I[J)I"⟩ ∈ mx_WS := mx_in 528 (by decide +kernel) rfl
theorem wt_La_count : Cond.static ⟨"PegBoardsLaw", "count", "(LPegBoards;I[J)I"⟩ ∈ mx_WS := mx_in 529 (by decide +kernel) rfl
theorem wc_La_count : Cond.codeWith ⟨"PegBoardsLaw", "count", "(LPegBoards;I[J)I"⟩ method_8_code 4 (some .int) [(0, 9, 12, 15), (0, 9, 15, 13)] ∈ mx_WS := mx_in 530 (by decide +kernel) rfl
theorem kw_La_count : mx_cdbW mY_La_count 3 = true := by
  simp only [mx_cdbW, Bool.and_eq_true, decide_eq_true_eq]
  exact ⟨⟨⟨⟨⟨wi_La, wc_La_count⟩, by decide +kernel⟩, by decide +kernel⟩, by decide +kernel⟩, by decide +kernel⟩
theorem ks_La_105 : mx_csb "PegBoardsLaw" 105 mY_La_count = true := by
  simp only [mx_csb, Bool.and_eq_true, decide_eq_true_eq]
  exact ⟨wl_La_105, wt_La_count⟩
theorem kt_La_count_0 : mx_ctb mY_La_count 4 "java/lang/IllegalStateException" "java/lang/IllegalStateException" 0 12 = true := mx_ct_i (q := (0, 9, 12, 15)) rfl (by decide) (by decide) rfl (by decide) wk_La_15 wk_cast_IS (fun z hz => by cases hz)
theorem kt_La_count_1 : mx_ctb mY_La_count 4 "java/lang/IllegalArgumentException" "java/lang/IllegalArgumentException" 1 15 = true := mx_ct_i (q := (0, 9, 15, 13)) rfl (by decide) (by decide) rfl (by decide) wk_La_13 wk_cast_IA (fun z hz => by
    have hz : z ∈ [(0, 9, 12, 15)] := hz
    obtain rfl := List.mem_singleton.mp hz
    exact ⟨by decide, "java/lang/IllegalStateException", by decide, wk_La_15, by decide⟩)
set_option maxRecDepth 4000 in
theorem wr_count (hl : l.stackTraces = false) (a1 : Int32) (hM : mx_Ct l (pg_L sc) mY_Pe_count d 2 [.ref 0, .int a1] M (mx_rA r M1)) (h : ag r xIS xIA th b) : mx_Ct l (pg_L sc) mY_La_count (d + 1) 2 [.ref 0, .int a1, .ref 60] M (mx_rI th (wrM r M1)) := by
  refine mx_bdW (n0 := 3) hl rfl rfl rfl rfl ?_
  refine mx_cVX (n := 0) (n0 := 1) (As := [.int a1]) (rest := [.int 0, .ref 60]) mo_La_count 4 hM rfl trivial rfl rfl rfl kv_La_33 kd_Pe_count rfl rfl rfl ?_ ?_
  · rintro v M2 ⟨q1, rfl⟩
    rcases h with ⟨e1, e2⟩ | ⟨e1, e2⟩ | ⟨e1, e2⟩ <;> rw [e1] at q1 <;> cases q1
    subst e2
    rw [show wrM r M2 = mx_up M2 60 0 b from by rw [e1]; rfl]
    refine mx_i2l mo_La_count 0 rfl trivial rfl ?_
    refine mx_last (v := b) mo_La_count 0 rfl trivial rfl rfl vp01 rfl ?_
    exact mx_ret_i mo_La_count rfl 2 rfl trivial rfl ⟨rfl, rfl⟩
  · rintro E M2 ⟨q1, rfl⟩
    rcases h with ⟨e1, e2⟩ | ⟨e1, e2⟩ | ⟨e1, e2⟩ <;> rw [e1] at q1 <;> cases q1
    · subst e2
      rw [show wrM r M2 = M2 from by rw [e1]; rfl]
      refine ⟨_, 0, 12, 3, 1, kt_La_count_0, Or.inl ⟨3, rfl, rfl, rfl⟩, by decide, ?_⟩
      exact mx_ret_i mo_La_count rfl 1 rfl trivial rfl ⟨rfl, rfl⟩
    · subst e2
      rw [show wrM r M2 = M2 from by rw [e1]; rfl]
      refine ⟨_, 1, 15, 3, 1, kt_La_count_1, Or.inl ⟨3, rfl, rfl, rfl⟩, by decide, ?_⟩
      exact mx_ret_i mo_La_count rfl 1 rfl trivial rfl ⟨rfl, rfl⟩
theorem wl_La_109 : Cond.methodLink "PegBoardsLaw" 109 ⟨"PegBoardsLaw", "solve", "(LPegBoards;I[J)I"⟩ ∈ mx_WS := mx_in 605 (by decide +kernel) rfl
theorem wt_La_solve : Cond.static ⟨"PegBoardsLaw", "solve", "(LPegBoards;I[J)I"⟩ ∈ mx_WS := mx_in 606 (by decide +kernel) rfl
theorem wc_La_solve : Cond.codeWith ⟨"PegBoardsLaw", "solve", "(LPegBoards;I[J)I"⟩ method_9_code 4 (some .int) [(0, 9, 12, 15), (0, 9, 15, 13)] ∈ mx_WS := mx_in 607 (by decide +kernel) rfl
theorem kw_La_solve : mx_cdbW mY_La_solve 3 = true := by
  simp only [mx_cdbW, Bool.and_eq_true, decide_eq_true_eq]
  exact ⟨⟨⟨⟨⟨wi_La, wc_La_solve⟩, by decide +kernel⟩, by decide +kernel⟩, by decide +kernel⟩, by decide +kernel⟩
theorem ks_La_109 : mx_csb "PegBoardsLaw" 109 mY_La_solve = true := by
  simp only [mx_csb, Bool.and_eq_true, decide_eq_true_eq]
  exact ⟨wl_La_109, wt_La_solve⟩
theorem kt_La_solve_0 : mx_ctb mY_La_solve 4 "java/lang/IllegalStateException" "java/lang/IllegalStateException" 0 12 = true := mx_ct_i (q := (0, 9, 12, 15)) rfl (by decide) (by decide) rfl (by decide) wk_La_15 wk_cast_IS (fun z hz => by cases hz)
theorem kt_La_solve_1 : mx_ctb mY_La_solve 4 "java/lang/IllegalArgumentException" "java/lang/IllegalArgumentException" 1 15 = true := mx_ct_i (q := (0, 9, 15, 13)) rfl (by decide) (by decide) rfl (by decide) wk_La_13 wk_cast_IA (fun z hz => by
    have hz : z ∈ [(0, 9, 12, 15)] := hz
    obtain rfl := List.mem_singleton.mp hz
    exact ⟨by decide, "java/lang/IllegalStateException", by decide, wk_La_15, by decide⟩)
set_option maxRecDepth 4000 in
theorem wr_solve (hl : l.stackTraces = false) (a1 : Int32) (hM : mx_Ct l (pg_L sc) mY_Pe_solve d 2 [.ref 0, .int a1] M (mx_rA r M1)) (h : ag r xIS xIA th b) : mx_Ct l (pg_L sc) mY_La_solve (d + 1) 2 [.ref 0, .int a1, .ref 60] M (mx_rI th (wrM r M1)) := by
  refine mx_bdW (n0 := 3) hl rfl rfl rfl rfl ?_
  refine mx_cVX (n := 0) (n0 := 1) (As := [.int a1]) (rest := [.int 0, .ref 60]) mo_La_solve 4 hM rfl trivial rfl rfl rfl kv_La_37 kd_Pe_solve rfl rfl rfl ?_ ?_
  · rintro v M2 ⟨q1, rfl⟩
    rcases h with ⟨e1, e2⟩ | ⟨e1, e2⟩ | ⟨e1, e2⟩ <;> rw [e1] at q1 <;> cases q1
    subst e2
    rw [show wrM r M2 = mx_up M2 60 0 b from by rw [e1]; rfl]
    refine mx_i2l mo_La_solve 0 rfl trivial rfl ?_
    refine mx_last (v := b) mo_La_solve 0 rfl trivial rfl rfl vp01 rfl ?_
    exact mx_ret_i mo_La_solve rfl 2 rfl trivial rfl ⟨rfl, rfl⟩
  · rintro E M2 ⟨q1, rfl⟩
    rcases h with ⟨e1, e2⟩ | ⟨e1, e2⟩ | ⟨e1, e2⟩ <;> rw [e1] at q1 <;> cases q1
    · subst e2
      rw [show wrM r M2 = M2 from by rw [e1]; rfl]
      refine ⟨_, 0, 12, 3, 1, kt_La_solve_0, Or.inl ⟨3, rfl, rfl, rfl⟩, by decide, ?_⟩
      exact mx_ret_i mo_La_solve rfl 1 rfl trivial rfl ⟨rfl, rfl⟩
    · subst e2
      rw [show wrM r M2 = M2 from by rw [e1]; rfl]
      refine ⟨_, 1, 15, 3, 1, kt_La_solve_1, Or.inl ⟨3, rfl, rfl, rfl⟩, by decide, ?_⟩
      exact mx_ret_i mo_La_solve rfl 1 rfl trivial rfl ⟨rfl, rfl⟩
theorem wl_La_112 : Cond.methodLink "PegBoardsLaw" 112 ⟨"PegBoardsLaw", "way", "(LPegBoards;II[J)I"⟩ ∈ mx_WS := mx_in 620 (by decide +kernel) rfl
theorem wt_La_way : Cond.static ⟨"PegBoardsLaw", "way", "(LPegBoards;II[J)I"⟩ ∈ mx_WS := mx_in 621 (by decide +kernel) rfl
theorem wc_La_way : Cond.codeWith ⟨"PegBoardsLaw", "way", "(LPegBoards;II[J)I"⟩ method_10_code 5 (some .int) [(0, 10, 13, 15), (0, 10, 17, 13)] ∈ mx_WS := mx_in 622 (by decide +kernel) rfl
theorem kw_La_way : mx_cdbW mY_La_way 4 = true := by
  simp only [mx_cdbW, Bool.and_eq_true, decide_eq_true_eq]
  exact ⟨⟨⟨⟨⟨wi_La, wc_La_way⟩, by decide +kernel⟩, by decide +kernel⟩, by decide +kernel⟩, by decide +kernel⟩
theorem ks_La_112 : mx_csb "PegBoardsLaw" 112 mY_La_way = true := by
  simp only [mx_csb, Bool.and_eq_true, decide_eq_true_eq]
  exact ⟨wl_La_112, wt_La_way⟩
theorem kt_La_way_0 : mx_ctb mY_La_way 5 "java/lang/IllegalStateException" "java/lang/IllegalStateException" 0 13 = true := mx_ct_i (q := (0, 10, 13, 15)) rfl (by decide) (by decide) rfl (by decide) wk_La_15 wk_cast_IS (fun z hz => by cases hz)
theorem kt_La_way_1 : mx_ctb mY_La_way 5 "java/lang/IllegalArgumentException" "java/lang/IllegalArgumentException" 1 17 = true := mx_ct_i (q := (0, 10, 17, 13)) rfl (by decide) (by decide) rfl (by decide) wk_La_13 wk_cast_IA (fun z hz => by
    have hz : z ∈ [(0, 10, 13, 15)] := hz
    obtain rfl := List.mem_singleton.mp hz
    exact ⟨by decide, "java/lang/IllegalStateException", by decide, wk_La_15, by decide⟩)
set_option maxRecDepth 4000 in
theorem wr_way (hl : l.stackTraces = false) (a1 : Int32) (a2 : Int32) (hM : mx_Ct l (pg_L sc) mY_Pe_way d 2 [.ref 0, .int a1, .int a2] M (mx_rA r M1)) (h : ag r xIS xIA th b) : mx_Ct l (pg_L sc) mY_La_way (d + 1) 2 [.ref 0, .int a1, .int a2, .ref 60] M (mx_rI th (wrM r M1)) := by
  refine mx_bdW (n0 := 4) hl rfl rfl rfl rfl ?_
  refine mx_cVX (n := 0) (n0 := 2) (As := [.int a1, .int a2]) (rest := [.int 0, .ref 60]) mo_La_way 5 hM rfl trivial rfl rfl rfl kv_La_40 kd_Pe_way rfl rfl rfl ?_ ?_
  · rintro v M2 ⟨q1, rfl⟩
    rcases h with ⟨e1, e2⟩ | ⟨e1, e2⟩ | ⟨e1, e2⟩ <;> rw [e1] at q1 <;> cases q1
    subst e2
    rw [show wrM r M2 = mx_up M2 60 0 b from by rw [e1]; rfl]
    refine mx_i2l mo_La_way 0 rfl trivial rfl ?_
    refine mx_last (v := b) mo_La_way 0 rfl trivial rfl rfl vp01 rfl ?_
    exact mx_ret_i mo_La_way rfl 2 rfl trivial rfl ⟨rfl, rfl⟩
  · rintro E M2 ⟨q1, rfl⟩
    rcases h with ⟨e1, e2⟩ | ⟨e1, e2⟩ | ⟨e1, e2⟩ <;> rw [e1] at q1 <;> cases q1
    · subst e2
      rw [show wrM r M2 = M2 from by rw [e1]; rfl]
      refine ⟨_, 0, 13, 4, 2, kt_La_way_0, Or.inr ⟨rfl, rfl⟩, by decide, ?_⟩
      exact mx_ret_i mo_La_way rfl 1 rfl trivial rfl ⟨rfl, rfl⟩
    · subst e2
      rw [show wrM r M2 = M2 from by rw [e1]; rfl]
      refine ⟨_, 1, 17, 4, 2, kt_La_way_1, Or.inr ⟨rfl, rfl⟩, by decide, ?_⟩
      exact mx_ret_i mo_La_way rfl 1 rfl trivial rfl ⟨rfl, rfl⟩
theorem wl_La_115 : Cond.methodLink "PegBoardsLaw" 115 ⟨"PegBoardsLaw", "moves", "(LPegBoards;I[J)I"⟩ ∈ mx_WS := mx_in 637 (by decide +kernel) rfl
theorem wt_La_moves : Cond.static ⟨"PegBoardsLaw", "moves", "(LPegBoards;I[J)I"⟩ ∈ mx_WS := mx_in 638 (by decide +kernel) rfl
theorem wc_La_moves : Cond.codeWith ⟨"PegBoardsLaw", "moves", "(LPegBoards;I[J)I"⟩ method_11_code 4 (some .int) [(0, 9, 12, 15), (0, 9, 15, 13)] ∈ mx_WS := mx_in 639 (by decide +kernel) rfl
theorem kw_La_moves : mx_cdbW mY_La_moves 3 = true := by
  simp only [mx_cdbW, Bool.and_eq_true, decide_eq_true_eq]
  exact ⟨⟨⟨⟨⟨wi_La, wc_La_moves⟩, by decide +kernel⟩, by decide +kernel⟩, by decide +kernel⟩, by decide +kernel⟩
theorem ks_La_115 : mx_csb "PegBoardsLaw" 115 mY_La_moves = true := by
  simp only [mx_csb, Bool.and_eq_true, decide_eq_true_eq]
  exact ⟨wl_La_115, wt_La_moves⟩
theorem kt_La_moves_0 : mx_ctb mY_La_moves 4 "java/lang/IllegalStateException" "java/lang/IllegalStateException" 0 12 = true := mx_ct_i (q := (0, 9, 12, 15)) rfl (by decide) (by decide) rfl (by decide) wk_La_15 wk_cast_IS (fun z hz => by cases hz)
theorem kt_La_moves_1 : mx_ctb mY_La_moves 4 "java/lang/IllegalArgumentException" "java/lang/IllegalArgumentException" 1 15 = true := mx_ct_i (q := (0, 9, 15, 13)) rfl (by decide) (by decide) rfl (by decide) wk_La_13 wk_cast_IA (fun z hz => by
    have hz : z ∈ [(0, 9, 12, 15)] := hz
    obtain rfl := List.mem_singleton.mp hz
    exact ⟨by decide, "java/lang/IllegalStateException", by decide, wk_La_15, by decide⟩)
set_option maxRecDepth 4000 in
theorem wr_moves (hl : l.stackTraces = false) (a1 : Int32) (hM : mx_Ct l (pg_L sc) mY_Pe_moves d 2 [.ref 0, .int a1] M (mx_rA r M1)) (h : ag r xIS xIA th b) : mx_Ct l (pg_L sc) mY_La_moves (d + 1) 2 [.ref 0, .int a1, .ref 60] M (mx_rI th (wrM r M1)) := by
  refine mx_bdW (n0 := 3) hl rfl rfl rfl rfl ?_
  refine mx_cVX (n := 0) (n0 := 1) (As := [.int a1]) (rest := [.int 0, .ref 60]) mo_La_moves 4 hM rfl trivial rfl rfl rfl kv_La_43 kd_Pe_moves rfl rfl rfl ?_ ?_
  · rintro v M2 ⟨q1, rfl⟩
    rcases h with ⟨e1, e2⟩ | ⟨e1, e2⟩ | ⟨e1, e2⟩ <;> rw [e1] at q1 <;> cases q1
    subst e2
    rw [show wrM r M2 = mx_up M2 60 0 b from by rw [e1]; rfl]
    refine mx_i2l mo_La_moves 0 rfl trivial rfl ?_
    refine mx_last (v := b) mo_La_moves 0 rfl trivial rfl rfl vp01 rfl ?_
    exact mx_ret_i mo_La_moves rfl 2 rfl trivial rfl ⟨rfl, rfl⟩
  · rintro E M2 ⟨q1, rfl⟩
    rcases h with ⟨e1, e2⟩ | ⟨e1, e2⟩ | ⟨e1, e2⟩ <;> rw [e1] at q1 <;> cases q1
    · subst e2
      rw [show wrM r M2 = M2 from by rw [e1]; rfl]
      refine ⟨_, 0, 12, 3, 1, kt_La_moves_0, Or.inl ⟨3, rfl, rfl, rfl⟩, by decide, ?_⟩
      exact mx_ret_i mo_La_moves rfl 1 rfl trivial rfl ⟨rfl, rfl⟩
    · subst e2
      rw [show wrM r M2 = M2 from by rw [e1]; rfl]
      refine ⟨_, 1, 15, 3, 1, kt_La_moves_1, Or.inl ⟨3, rfl, rfl, rfl⟩, by decide, ?_⟩
      exact mx_ret_i mo_La_moves rfl 1 rfl trivial rfl ⟨rfl, rfl⟩
theorem wl_La_118 : Cond.methodLink "PegBoardsLaw" 118 ⟨"PegBoardsLaw", "classes", "(LPegBoards;I[J)I"⟩ ∈ mx_WS := mx_in 648 (by decide +kernel) rfl
theorem wt_La_classes : Cond.static ⟨"PegBoardsLaw", "classes", "(LPegBoards;I[J)I"⟩ ∈ mx_WS := mx_in 649 (by decide +kernel) rfl
theorem wc_La_classes : Cond.codeWith ⟨"PegBoardsLaw", "classes", "(LPegBoards;I[J)I"⟩ method_12_code 4 (some .int) [(0, 9, 12, 15), (0, 9, 15, 13)] ∈ mx_WS := mx_in 650 (by decide +kernel) rfl
theorem kw_La_classes : mx_cdbW mY_La_classes 3 = true := by
  simp only [mx_cdbW, Bool.and_eq_true, decide_eq_true_eq]
  exact ⟨⟨⟨⟨⟨wi_La, wc_La_classes⟩, by decide +kernel⟩, by decide +kernel⟩, by decide +kernel⟩, by decide +kernel⟩
theorem ks_La_118 : mx_csb "PegBoardsLaw" 118 mY_La_classes = true := by
  simp only [mx_csb, Bool.and_eq_true, decide_eq_true_eq]
  exact ⟨wl_La_118, wt_La_classes⟩
theorem kt_La_classes_0 : mx_ctb mY_La_classes 4 "java/lang/IllegalStateException" "java/lang/IllegalStateException" 0 12 = true := mx_ct_i (q := (0, 9, 12, 15)) rfl (by decide) (by decide) rfl (by decide) wk_La_15 wk_cast_IS (fun z hz => by cases hz)
theorem kt_La_classes_1 : mx_ctb mY_La_classes 4 "java/lang/IllegalArgumentException" "java/lang/IllegalArgumentException" 1 15 = true := mx_ct_i (q := (0, 9, 15, 13)) rfl (by decide) (by decide) rfl (by decide) wk_La_13 wk_cast_IA (fun z hz => by
    have hz : z ∈ [(0, 9, 12, 15)] := hz
    obtain rfl := List.mem_singleton.mp hz
    exact ⟨by decide, "java/lang/IllegalStateException", by decide, wk_La_15, by decide⟩)
set_option maxRecDepth 4000 in
theorem wr_classes (hl : l.stackTraces = false) (a1 : Int32) (hM : mx_Ct l (pg_L sc) mY_Pe_classes d 2 [.ref 0, .int a1] M (mx_rA r M1)) (h : ag r xIS xIA th b) : mx_Ct l (pg_L sc) mY_La_classes (d + 1) 2 [.ref 0, .int a1, .ref 60] M (mx_rI th (wrM r M1)) := by
  refine mx_bdW (n0 := 3) hl rfl rfl rfl rfl ?_
  refine mx_cVX (n := 0) (n0 := 1) (As := [.int a1]) (rest := [.int 0, .ref 60]) mo_La_classes 4 hM rfl trivial rfl rfl rfl kv_La_46 kd_Pe_classes rfl rfl rfl ?_ ?_
  · rintro v M2 ⟨q1, rfl⟩
    rcases h with ⟨e1, e2⟩ | ⟨e1, e2⟩ | ⟨e1, e2⟩ <;> rw [e1] at q1 <;> cases q1
    subst e2
    rw [show wrM r M2 = mx_up M2 60 0 b from by rw [e1]; rfl]
    refine mx_i2l mo_La_classes 0 rfl trivial rfl ?_
    refine mx_last (v := b) mo_La_classes 0 rfl trivial rfl rfl vp01 rfl ?_
    exact mx_ret_i mo_La_classes rfl 2 rfl trivial rfl ⟨rfl, rfl⟩
  · rintro E M2 ⟨q1, rfl⟩
    rcases h with ⟨e1, e2⟩ | ⟨e1, e2⟩ | ⟨e1, e2⟩ <;> rw [e1] at q1 <;> cases q1
    · subst e2
      rw [show wrM r M2 = M2 from by rw [e1]; rfl]
      refine ⟨_, 0, 12, 3, 1, kt_La_classes_0, Or.inl ⟨3, rfl, rfl, rfl⟩, by decide, ?_⟩
      exact mx_ret_i mo_La_classes rfl 1 rfl trivial rfl ⟨rfl, rfl⟩
    · subst e2
      rw [show wrM r M2 = M2 from by rw [e1]; rfl]
      refine ⟨_, 1, 15, 3, 1, kt_La_classes_1, Or.inl ⟨3, rfl, rfl, rfl⟩, by decide, ?_⟩
      exact mx_ret_i mo_La_classes rfl 1 rfl trivial rfl ⟨rfl, rfl⟩
theorem wl_La_125 : Cond.methodLink "PegBoardsLaw" 125 ⟨"PegBoardsLaw", "image", "(LPegBoards;II[J)I"⟩ ∈ mx_WS := mx_in 669 (by decide +kernel) rfl
theorem wt_La_image : Cond.static ⟨"PegBoardsLaw", "image", "(LPegBoards;II[J)I"⟩ ∈ mx_WS := mx_in 670 (by decide +kernel) rfl
theorem wc_La_image : Cond.codeWith ⟨"PegBoardsLaw", "image", "(LPegBoards;II[J)I"⟩ method_13_code 5 (some .int) [(0, 10, 13, 24)] ∈ mx_WS := mx_in 671 (by decide +kernel) rfl
theorem kw_La_image : mx_cdbW mY_La_image 4 = true := by
  simp only [mx_cdbW, Bool.and_eq_true, decide_eq_true_eq]
  exact ⟨⟨⟨⟨⟨wi_La, wc_La_image⟩, by decide +kernel⟩, by decide +kernel⟩, by decide +kernel⟩, by decide +kernel⟩
theorem ks_La_125 : mx_csb "PegBoardsLaw" 125 mY_La_image = true := by
  simp only [mx_csb, Bool.and_eq_true, decide_eq_true_eq]
  exact ⟨wl_La_125, wt_La_image⟩
theorem kt_La_image_0 : mx_ctb mY_La_image 5 "java/lang/IndexOutOfBoundsException" "java/lang/IndexOutOfBoundsException" 0 13 = true := mx_ct_i (q := (0, 10, 13, 24)) rfl (by decide) (by decide) rfl (by decide) wk_La_24 wk_cast_IO (fun z hz => by cases hz)
set_option maxRecDepth 4000 in
theorem wr_image (hl : l.stackTraces = false) (a1 : Int32) (a2 : Int32) (hM : mx_Ct l (pg_L sc) mY_Pe_image d 2 [.ref 0, .int a1, .int a2] M (mx_rA r M1)) (h : ag1 r xIO th b) : mx_Ct l (pg_L sc) mY_La_image (d + 1) 2 [.ref 0, .int a1, .int a2, .ref 60] M (mx_rI th (wrM r M1)) := by
  refine mx_bdW (n0 := 4) hl rfl rfl rfl rfl ?_
  refine mx_cVX (n := 0) (n0 := 2) (As := [.int a1, .int a2]) (rest := [.int 0, .ref 60]) mo_La_image 5 hM rfl trivial rfl rfl rfl kv_La_49 kd_Pe_image rfl rfl rfl ?_ ?_
  · rintro v M2 ⟨q1, rfl⟩
    rcases h with ⟨e1, e2⟩ | ⟨e1, e2⟩ <;> rw [e1] at q1 <;> cases q1
    subst e2
    rw [show wrM r M2 = mx_up M2 60 0 b from by rw [e1]; rfl]
    refine mx_i2l mo_La_image 0 rfl trivial rfl ?_
    refine mx_last (v := b) mo_La_image 0 rfl trivial rfl rfl vp01 rfl ?_
    exact mx_ret_i mo_La_image rfl 2 rfl trivial rfl ⟨rfl, rfl⟩
  · rintro E M2 ⟨q1, rfl⟩
    rcases h with ⟨e1, e2⟩ | ⟨e1, e2⟩ <;> rw [e1] at q1 <;> cases q1
    · subst e2
      rw [show wrM r M2 = M2 from by rw [e1]; rfl]
      refine ⟨_, 0, 13, 4, 2, kt_La_image_0, Or.inr ⟨rfl, rfl⟩, by decide, ?_⟩
      exact mx_ret_i mo_La_image rfl 1 rfl trivial rfl ⟨rfl, rfl⟩
theorem wl_La_128 : Cond.methodLink "PegBoardsLaw" 128 ⟨"PegBoardsLaw", "least", "(LPegBoards;I[J)I"⟩ ∈ mx_WS := mx_in 687 (by decide +kernel) rfl
theorem wt_La_least : Cond.static ⟨"PegBoardsLaw", "least", "(LPegBoards;I[J)I"⟩ ∈ mx_WS := mx_in 688 (by decide +kernel) rfl
theorem wc_La_least : Cond.codeWith ⟨"PegBoardsLaw", "least", "(LPegBoards;I[J)I"⟩ method_14_code 4 (some .int) [(0, 9, 12, 13), (0, 9, 15, 15)] ∈ mx_WS := mx_in 689 (by decide +kernel) rfl
theorem kw_La_least : mx_cdbW mY_La_least 3 = true := by
  simp only [mx_cdbW, Bool.and_eq_true, decide_eq_true_eq]
  exact ⟨⟨⟨⟨⟨wi_La, wc_La_least⟩, by decide +kernel⟩, by decide +kernel⟩, by decide +kernel⟩, by decide +kernel⟩
theorem ks_La_128 : mx_csb "PegBoardsLaw" 128 mY_La_least = true := by
  simp only [mx_csb, Bool.and_eq_true, decide_eq_true_eq]
  exact ⟨wl_La_128, wt_La_least⟩
theorem kt_La_least_0 : mx_ctb mY_La_least 4 "java/lang/IllegalArgumentException" "java/lang/IllegalArgumentException" 0 12 = true := mx_ct_i (q := (0, 9, 12, 13)) rfl (by decide) (by decide) rfl (by decide) wk_La_13 wk_cast_IA (fun z hz => by cases hz)
theorem kt_La_least_1 : mx_ctb mY_La_least 4 "java/lang/IllegalStateException" "java/lang/IllegalStateException" 1 15 = true := mx_ct_i (q := (0, 9, 15, 15)) rfl (by decide) (by decide) rfl (by decide) wk_La_15 wk_cast_IS (fun z hz => by
    have hz : z ∈ [(0, 9, 12, 13)] := hz
    obtain rfl := List.mem_singleton.mp hz
    exact ⟨by decide, "java/lang/IllegalArgumentException", by decide, wk_La_13, by decide⟩)
set_option maxRecDepth 4000 in
theorem wr_least (hl : l.stackTraces = false) (a1 : Int32) (hM : mx_Ct l (pg_L sc) mY_Pe_least d 2 [.ref 0, .int a1] M (mx_rA r M1)) (h : ag r xIA xIS th b) : mx_Ct l (pg_L sc) mY_La_least (d + 1) 2 [.ref 0, .int a1, .ref 60] M (mx_rI th (wrM r M1)) := by
  refine mx_bdW (n0 := 3) hl rfl rfl rfl rfl ?_
  refine mx_cVX (n := 0) (n0 := 1) (As := [.int a1]) (rest := [.int 0, .ref 60]) mo_La_least 4 hM rfl trivial rfl rfl rfl kv_La_52 kd_Pe_least rfl rfl rfl ?_ ?_
  · rintro v M2 ⟨q1, rfl⟩
    rcases h with ⟨e1, e2⟩ | ⟨e1, e2⟩ | ⟨e1, e2⟩ <;> rw [e1] at q1 <;> cases q1
    subst e2
    rw [show wrM r M2 = mx_up M2 60 0 b from by rw [e1]; rfl]
    refine mx_i2l mo_La_least 0 rfl trivial rfl ?_
    refine mx_last (v := b) mo_La_least 0 rfl trivial rfl rfl vp01 rfl ?_
    exact mx_ret_i mo_La_least rfl 2 rfl trivial rfl ⟨rfl, rfl⟩
  · rintro E M2 ⟨q1, rfl⟩
    rcases h with ⟨e1, e2⟩ | ⟨e1, e2⟩ | ⟨e1, e2⟩ <;> rw [e1] at q1 <;> cases q1
    · subst e2
      rw [show wrM r M2 = M2 from by rw [e1]; rfl]
      refine ⟨_, 0, 12, 3, 1, kt_La_least_0, Or.inl ⟨3, rfl, rfl, rfl⟩, by decide, ?_⟩
      exact mx_ret_i mo_La_least rfl 1 rfl trivial rfl ⟨rfl, rfl⟩
    · subst e2
      rw [show wrM r M2 = M2 from by rw [e1]; rfl]
      refine ⟨_, 1, 15, 3, 1, kt_La_least_1, Or.inl ⟨3, rfl, rfl, rfl⟩, by decide, ?_⟩
      exact mx_ret_i mo_La_least rfl 1 rfl trivial rfl ⟨rfl, rfl⟩
theorem wl_La_131 : Cond.methodLink "PegBoardsLaw" 131 ⟨"PegBoardsLaw", "parity", "(LPegBoards;I[J)I"⟩ ∈ mx_WS := mx_in 695 (by decide +kernel) rfl
theorem wt_La_parity : Cond.static ⟨"PegBoardsLaw", "parity", "(LPegBoards;I[J)I"⟩ ∈ mx_WS := mx_in 696 (by decide +kernel) rfl
theorem wc_La_parity : Cond.codeWith ⟨"PegBoardsLaw", "parity", "(LPegBoards;I[J)I"⟩ method_15_code 4 (some .int) [(0, 9, 12, 13)] ∈ mx_WS := mx_in 697 (by decide +kernel) rfl
theorem kw_La_parity : mx_cdbW mY_La_parity 3 = true := by
  simp only [mx_cdbW, Bool.and_eq_true, decide_eq_true_eq]
  exact ⟨⟨⟨⟨⟨wi_La, wc_La_parity⟩, by decide +kernel⟩, by decide +kernel⟩, by decide +kernel⟩, by decide +kernel⟩
theorem ks_La_131 : mx_csb "PegBoardsLaw" 131 mY_La_parity = true := by
  simp only [mx_csb, Bool.and_eq_true, decide_eq_true_eq]
  exact ⟨wl_La_131, wt_La_parity⟩
theorem kt_La_parity_0 : mx_ctb mY_La_parity 4 "java/lang/IllegalArgumentException" "java/lang/IllegalArgumentException" 0 12 = true := mx_ct_i (q := (0, 9, 12, 13)) rfl (by decide) (by decide) rfl (by decide) wk_La_13 wk_cast_IA (fun z hz => by cases hz)
set_option maxRecDepth 4000 in
theorem wr_parity (hl : l.stackTraces = false) (a1 : Int32) (hM : mx_Ct l (pg_L sc) mY_Pe_parity d 1 [.ref 0, .int a1] M (mx_rA r M1)) (h : ag1 r xIA th b) : mx_Ct l (pg_L sc) mY_La_parity (d + 1) 1 [.ref 0, .int a1, .ref 60] M (mx_rI th (wrM r M1)) := by
  refine mx_bdW (n0 := 3) hl rfl rfl rfl rfl ?_
  refine mx_cVX (n := 0) (n0 := 1) (As := [.int a1]) (rest := [.int 0, .ref 60]) mo_La_parity 4 hM rfl trivial rfl rfl rfl kv_La_55 kd_Pe_parity rfl rfl rfl ?_ ?_
  · rintro v M2 ⟨q1, rfl⟩
    rcases h with ⟨e1, e2⟩ | ⟨e1, e2⟩ <;> rw [e1] at q1 <;> cases q1
    subst e2
    rw [show wrM r M2 = mx_up M2 60 0 b from by rw [e1]; rfl]
    refine mx_i2l mo_La_parity 0 rfl trivial rfl ?_
    refine mx_last (v := b) mo_La_parity 0 rfl trivial rfl rfl vp01 rfl ?_
    exact mx_ret_i mo_La_parity rfl 2 rfl trivial rfl ⟨rfl, rfl⟩
  · rintro E M2 ⟨q1, rfl⟩
    rcases h with ⟨e1, e2⟩ | ⟨e1, e2⟩ <;> rw [e1] at q1 <;> cases q1
    · subst e2
      rw [show wrM r M2 = M2 from by rw [e1]; rfl]
      refine ⟨_, 0, 12, 3, 1, kt_La_parity_0, Or.inl ⟨3, rfl, rfl, rfl⟩, by decide, ?_⟩
      exact mx_ret_i mo_La_parity rfl 1 rfl trivial rfl ⟨rfl, rfl⟩
theorem wl_La_134 : Cond.methodLink "PegBoardsLaw" 134 ⟨"PegBoardsLaw", "weight", "(LPegBoards;II)I"⟩ ∈ mx_WS := mx_in 711 (by decide +kernel) rfl
theorem wt_La_weight : Cond.static ⟨"PegBoardsLaw", "weight", "(LPegBoards;II)I"⟩ ∈ mx_WS := mx_in 712 (by decide +kernel) rfl
theorem wc_La_weight : Cond.codeWith ⟨"PegBoardsLaw", "weight", "(LPegBoards;II)I"⟩ method_16_code 4 (some .int) [(0, 6, 9, 24), (0, 6, 12, 13)] ∈ mx_WS := mx_in 713 (by decide +kernel) rfl
theorem kw_La_weight : mx_cdbW mY_La_weight 3 = true := by
  simp only [mx_cdbW, Bool.and_eq_true, decide_eq_true_eq]
  exact ⟨⟨⟨⟨⟨wi_La, wc_La_weight⟩, by decide +kernel⟩, by decide +kernel⟩, by decide +kernel⟩, by decide +kernel⟩
theorem ks_La_134 : mx_csb "PegBoardsLaw" 134 mY_La_weight = true := by
  simp only [mx_csb, Bool.and_eq_true, decide_eq_true_eq]
  exact ⟨wl_La_134, wt_La_weight⟩
theorem kt_La_weight_0 : mx_ctb mY_La_weight 3 "java/lang/IndexOutOfBoundsException" "java/lang/IndexOutOfBoundsException" 0 9 = true := mx_ct_i (q := (0, 6, 9, 24)) rfl (by decide) (by decide) rfl (by decide) wk_La_24 wk_cast_IO (fun z hz => by cases hz)
theorem kt_La_weight_1 : mx_ctb mY_La_weight 3 "java/lang/IllegalArgumentException" "java/lang/IllegalArgumentException" 1 12 = true := mx_ct_i (q := (0, 6, 12, 13)) rfl (by decide) (by decide) rfl (by decide) wk_La_13 wk_cast_IA (fun z hz => by
    have hz : z ∈ [(0, 6, 9, 24)] := hz
    obtain rfl := List.mem_singleton.mp hz
    exact ⟨by decide, "java/lang/IndexOutOfBoundsException", by decide, wk_La_24, by decide⟩)
set_option maxRecDepth 4000 in
theorem wr_weight (hl : l.stackTraces = false) (a1 : Int32) (a2 : Int32) (hM : mx_Ct l (pg_L sc) mY_Pe_weight d 2 [.ref 0, .int a1, .int a2] M (mx_rA r M1)) (h : agv r xIO xIA th) : mx_Ct l (pg_L sc) mY_La_weight (d + 1) 2 [.ref 0, .int a1, .int a2] M (mx_rI th (wrM r M1)) := by
  refine mx_bdW (n0 := 3) hl rfl rfl rfl rfl ?_
  refine mx_cVX (n := 0) (n0 := 2) (As := [.int a1, .int a2]) (rest := []) mo_La_weight 3 hM rfl trivial rfl rfl rfl kv_La_58 kd_Pe_weight rfl rfl rfl ?_ ?_
  · rintro v M2 ⟨q1, rfl⟩
    rcases h with ⟨e1, e2⟩ | ⟨e1, e2⟩ | ⟨e1, e2⟩ <;> rw [e1] at q1 <;> cases q1
    subst e2
    rw [show wrM r M2 = M2 from by rw [e1]; rfl]
    exact mx_ret_i mo_La_weight rfl 2 rfl trivial rfl ⟨rfl, rfl⟩
  · rintro E M2 ⟨q1, rfl⟩
    rcases h with ⟨e1, e2⟩ | ⟨e1, e2⟩ | ⟨e1, e2⟩ <;> rw [e1] at q1 <;> cases q1
    · subst e2
      rw [show wrM r M2 = M2 from by rw [e1]; rfl]
      refine ⟨_, 0, 9, 3, 1, kt_La_weight_0, Or.inl ⟨3, rfl, rfl, rfl⟩, by decide, ?_⟩
      exact mx_ret_i mo_La_weight rfl 1 rfl trivial rfl ⟨rfl, rfl⟩
    · subst e2
      rw [show wrM r M2 = M2 from by rw [e1]; rfl]
      refine ⟨_, 1, 12, 3, 1, kt_La_weight_1, Or.inl ⟨3, rfl, rfl, rfl⟩, by decide, ?_⟩
      exact mx_ret_i mo_La_weight rfl 1 rfl trivial rfl ⟨rfl, rfl⟩
theorem wl_La_138 : Cond.methodLink "PegBoardsLaw" 138 ⟨"PegBoardsLaw", "weights", "(LPegBoards;I[J)I"⟩ ∈ mx_WS := mx_in 723 (by decide +kernel) rfl
theorem wt_La_weights : Cond.static ⟨"PegBoardsLaw", "weights", "(LPegBoards;I[J)I"⟩ ∈ mx_WS := mx_in 724 (by decide +kernel) rfl
theorem wc_La_weights : Cond.codeWith ⟨"PegBoardsLaw", "weights", "(LPegBoards;I[J)I"⟩ method_17_code 4 (some .int) [(0, 9, 12, 24)] ∈ mx_WS := mx_in 725 (by decide +kernel) rfl
theorem kw_La_weights : mx_cdbW mY_La_weights 3 = true := by
  simp only [mx_cdbW, Bool.and_eq_true, decide_eq_true_eq]
  exact ⟨⟨⟨⟨⟨wi_La, wc_La_weights⟩, by decide +kernel⟩, by decide +kernel⟩, by decide +kernel⟩, by decide +kernel⟩
theorem ks_La_138 : mx_csb "PegBoardsLaw" 138 mY_La_weights = true := by
  simp only [mx_csb, Bool.and_eq_true, decide_eq_true_eq]
  exact ⟨wl_La_138, wt_La_weights⟩
theorem kt_La_weights_0 : mx_ctb mY_La_weights 4 "java/lang/IndexOutOfBoundsException" "java/lang/IndexOutOfBoundsException" 0 12 = true := mx_ct_i (q := (0, 9, 12, 24)) rfl (by decide) (by decide) rfl (by decide) wk_La_24 wk_cast_IO (fun z hz => by cases hz)
set_option maxRecDepth 4000 in
theorem wr_weights (hl : l.stackTraces = false) (a1 : Int32) (hM : mx_Ct l (pg_L sc) mY_Pe_weights d 2 [.ref 0, .int a1] M (mx_rA r M1)) (h : ag1 r xIO th b) : mx_Ct l (pg_L sc) mY_La_weights (d + 1) 2 [.ref 0, .int a1, .ref 60] M (mx_rI th (wrM r M1)) := by
  refine mx_bdW (n0 := 3) hl rfl rfl rfl rfl ?_
  refine mx_cVX (n := 0) (n0 := 1) (As := [.int a1]) (rest := [.int 0, .ref 60]) mo_La_weights 4 hM rfl trivial rfl rfl rfl kv_La_62 kd_Pe_weights rfl rfl rfl ?_ ?_
  · rintro v M2 ⟨q1, rfl⟩
    rcases h with ⟨e1, e2⟩ | ⟨e1, e2⟩ <;> rw [e1] at q1 <;> cases q1
    subst e2
    rw [show wrM r M2 = mx_up M2 60 0 b from by rw [e1]; rfl]
    refine mx_i2l mo_La_weights 0 rfl trivial rfl ?_
    refine mx_last (v := b) mo_La_weights 0 rfl trivial rfl rfl vp01 rfl ?_
    exact mx_ret_i mo_La_weights rfl 2 rfl trivial rfl ⟨rfl, rfl⟩
  · rintro E M2 ⟨q1, rfl⟩
    rcases h with ⟨e1, e2⟩ | ⟨e1, e2⟩ <;> rw [e1] at q1 <;> cases q1
    · subst e2
      rw [show wrM r M2 = M2 from by rw [e1]; rfl]
      refine ⟨_, 0, 12, 3, 1, kt_La_weights_0, Or.inl ⟨3, rfl, rfl, rfl⟩, by decide, ?_⟩
      exact mx_ret_i mo_La_weights rfl 1 rfl trivial rfl ⟨rfl, rfl⟩
theorem wl_La_141 : Cond.methodLink "PegBoardsLaw" 141 ⟨"PegBoardsLaw", "find", "(LPegBoards;[J)I"⟩ ∈ mx_WS := mx_in 748 (by decide +kernel) rfl
theorem wt_La_find : Cond.static ⟨"PegBoardsLaw", "find", "(LPegBoards;[J)I"⟩ ∈ mx_WS := mx_in 749 (by decide +kernel) rfl
theorem wc_La_find : Cond.codeWith ⟨"PegBoardsLaw", "find", "(LPegBoards;[J)I"⟩ method_18_code 3 (some .int) [(0, 15, 18, 15)] ∈ mx_WS := mx_in 750 (by decide +kernel) rfl
theorem kw_La_find : mx_cdbW mY_La_find 2 = true := by
  simp only [mx_cdbW, Bool.and_eq_true, decide_eq_true_eq]
  exact ⟨⟨⟨⟨⟨wi_La, wc_La_find⟩, by decide +kernel⟩, by decide +kernel⟩, by decide +kernel⟩, by decide +kernel⟩
theorem ks_La_141 : mx_csb "PegBoardsLaw" 141 mY_La_find = true := by
  simp only [mx_csb, Bool.and_eq_true, decide_eq_true_eq]
  exact ⟨wl_La_141, wt_La_find⟩
theorem kt_La_find_0 : mx_ctb mY_La_find 3 "java/lang/IllegalStateException" "java/lang/IllegalStateException" 0 18 = true := mx_ct_i (q := (0, 15, 18, 15)) rfl (by decide) (by decide) rfl (by decide) wk_La_15 wk_cast_IS (fun z hz => by cases hz)
set_option maxRecDepth 4000 in
theorem wr_find (hl : l.stackTraces = false) (hz : b = 0 ∨ b = 1) (hM : mx_Ct l (pg_L sc) mY_Pe_find d 2 [.ref 0] M (mx_rA r M1)) (h : ag1 r xIS th b) : mx_Ct l (pg_L sc) mY_La_find (d + 1) 2 [.ref 0, .ref 60] M (mx_rI th (wrM r M1)) := by
  refine mx_bdW (n0 := 2) hl rfl rfl rfl rfl ?_
  refine mx_cVX (n := 0) (n0 := 0) (As := []) (rest := [.int 0, .ref 60]) mo_La_find 3 hM rfl trivial rfl rfl rfl kv_La_65 kd_Pe_find rfl rfl rfl ?_ ?_
  · rintro v M2 ⟨q1, rfl⟩
    rcases h with ⟨e1, e2⟩ | ⟨e1, e2⟩ <;> rw [e1] at q1 <;> cases q1
    subst e2
    rw [show wrM r M2 = mx_up M2 60 0 b from by rw [e1]; rfl]
    refine mx_if mo_La_find 0 (t := 13) (f := 9) rfl trivial (fun (q : b = 0) => ?_) (fun (q : ¬ b = 0) => ?_)
    · subst q
      refine mx_lcn mo_La_find 0 rfl trivial rfl rfl ?_
      refine mx_last (v := 0) mo_La_find 0 rfl trivial rfl rfl vp01 (by decide) ?_
      exact mx_ret_i mo_La_find rfl 2 rfl trivial rfl ⟨rfl, rfl⟩
    · obtain rfl : b = 1 := hz.resolve_left q
      refine mx_lcn mo_La_find 0 rfl trivial rfl rfl ?_
      refine mx_last (v := 1) mo_La_find 1 rfl trivial rfl rfl vp01 (by decide) ?_
      exact mx_ret_i mo_La_find rfl 2 rfl trivial rfl ⟨rfl, rfl⟩
  · rintro E M2 ⟨q1, rfl⟩
    rcases h with ⟨e1, e2⟩ | ⟨e1, e2⟩ <;> rw [e1] at q1 <;> cases q1
    · subst e2
      rw [show wrM r M2 = M2 from by rw [e1]; rfl]
      refine ⟨_, 0, 18, 2, 1, kt_La_find_0, Or.inl ⟨2, rfl, rfl, rfl⟩, by decide, ?_⟩
      exact mx_ret_i mo_La_find rfl 1 rfl trivial rfl ⟨rfl, rfl⟩
end WR
