/-! Printed by wip/whole/gen_law.py: the law, a call at a time. -/
section LS
abbrev mY_La_law : mx_Y := (⟨"PegBoardsLaw", "law", "([I)Z"⟩, code, 7, some .boolean, "PegBoardsLaw", [], mx_WS)
abbrev lwA (xs : Nat → Int32) (i : Nat) : Int32 := xs (nI i + 1).toNatClampNeg
abbrev lwB (xs : Nat → Int32) (i : Nat) : Int32 := xs (nI i + 2).toNatClampNeg
theorem lg_same (x : Int64) : lg_cmp x x = 0 := by simp [lg_cmp]
def lwz (x : Int32) : Int32 := if x = 0 then 0 else 1
variable {l : Launch} {Lx : Nat} {xs : Nat → Int32} {d n : Nat} {M M1 M2 : mx_M} {Q : mx_R → mx_M → Prop} {th b : Int32} {i : Nat}
def mt_L_clear : mx_B := [(128, .aload_n 1, 1), (129, .aload_n 0, 1), (130, .iload 4, 2), (132, .iconst 1, 1), (133, .iadd, 1), (134, .iaload, 1), (135, .ifCond .eq 7, 3), (138, .iconst 1, 1), (139, .goto 4, 3), (142, .iconst 0, 1), (143, .invokevirtual 73, 3), (146, .aload_n 2, 1), (147, .aload_n 0, 1), (148, .iload 4, 2), (150, .iconst 1, 1), (151, .iadd, 1), (152, .iaload, 1), (153, .ifCond .eq 7, 3), (156, .iconst 1, 1), (157, .goto 4, 3), (160, .iconst 0, 1), (161, .invokevirtual 77, 3), (164, .goto 992, 3)]
theorem mt_L_clear_ok : ∀ x ∈ mt_L_clear, decode code x.1 = .ok (x.2.1, x.2.2) := by decide +kernel
theorem mL_clear : mx_ok mY_La_law mf_La mt_L_clear := ⟨mt_L_clear_ok, mf_La_ok, fun w h => h⟩
set_option maxRecDepth 8000 in
theorem ls_clear (hl : l.stackTraces = false) (i1 : vp_in (nI i + 1) Lx) (hA : mx_Ct l (pg_L (Lx, xs)) mY_Pe_clear d 0 [.ref 0, .int (lwz (lwA xs i))] M (mx_rV M1)) (hB : mx_Ct l (pg_L (Lx, xs)) mY_Mo_clear d 0 [.ref 41, .int (lwz (lwA xs i))] M1 (mx_rV M2)) (kk : ∀ v5 v6 : Value, mx_E l (pg_L (Lx, xs)) mY_La_law (d + 1) n Q 1156 [.ref 1004, .ref 0, .ref 41, .ref 60, .int (nI i), v5, v6] [] M2) : ∀ v5 v6 : Value, mx_E l (pg_L (Lx, xs)) mY_La_law (d + 1) n Q 128 [.ref 1004, .ref 0, .ref 41, .ref 60, .int (nI i), v5, v6] [] M := by
  intro v5 v6
  have c2 : ∀ z, z = lwz (lwA xs i) → mx_E l (pg_L (Lx, xs)) mY_La_law (d + 1) n Q 161 [.ref 1004, .ref 0, .ref 41, .ref 60, .int (nI i), v5, v6] [.int z, .ref 41] M1 := by
    rintro z rfl
    refine mx_cVv (n0 := 1) (As := [.int (lwz (lwA xs i))]) (rest := []) mL_clear 0 rfl hB rfl trivial rfl rfl rfl kv_La_77 kd_Mo_clear rfl rfl rfl ?_
    exact mx_go mL_clear 1 rfl trivial (kk _ _)
  have c1 : ∀ z, z = lwz (lwA xs i) → mx_E l (pg_L (Lx, xs)) mY_La_law (d + 1) n Q 143 [.ref 1004, .ref 0, .ref 41, .ref 60, .int (nI i), v5, v6] [.int z, .ref 0] M := by
    rintro z rfl
    refine mx_cVv (n0 := 1) (As := [.int (lwz (lwA xs i))]) (rest := []) mL_clear 0 rfl hA rfl trivial rfl rfl rfl kv_La_73 kd_Pe_clear rfl rfl rfl ?_
    refine mx_if mL_clear 6 (t := 160) (f := 156) rfl ⟨i1, trivial⟩ (fun (q : lwA xs i = 0) => ?_) (fun (q : ¬ lwA xs i = 0) => ?_)
    · exact mx_go mL_clear 1 rfl trivial (c2 0 (by rw [lwz, if_pos q]))
    · exact mx_go mL_clear 2 rfl trivial (c2 1 (by rw [lwz, if_neg q]))
  refine mx_if mL_clear 6 (t := 142) (f := 138) rfl ⟨i1, trivial⟩ (fun (q : lwA xs i = 0) => ?_) (fun (q : ¬ lwA xs i = 0) => ?_)
  · exact mx_go mL_clear 1 rfl trivial (c1 0 (by rw [lwz, if_pos q]))
  · exact mx_go mL_clear 2 rfl trivial (c1 1 (by rw [lwz, if_neg q]))
def mt_L_hole : mx_B := [(167, .aload_n 1, 1), (168, .aload_n 0, 1), (169, .iload 4, 2), (171, .iconst 1, 1), (172, .iadd, 1), (173, .iaload, 1), (174, .aload_n 0, 1), (175, .iload 4, 2), (177, .iconst 2, 1), (178, .iadd, 1), (179, .iaload, 1), (180, .aload_n 3, 1), (181, .invokestatic 78, 3), (184, .istore 5, 2), (186, .aload_n 2, 1), (187, .aload_n 0, 1), (188, .iload 4, 2), (190, .iconst 1, 1), (191, .iadd, 1), (192, .iaload, 1), (193, .aload_n 0, 1), (194, .iload 4, 2), (196, .iconst 2, 1), (197, .iadd, 1), (198, .iaload, 1), (199, .invokevirtual 83, 3), (202, .istore 6, 2), (204, .aload_n 2, 1), (205, .invokevirtual 84, 3), (208, .iload 5, 2), (210, .if_icmp .eq 5, 3), (213, .iconst 0, 1), (214, .ireturn, 1), (215, .iload 5, 2), (217, .ifCond .ne 15, 3), (220, .aload_n 3, 1), (221, .iconst 0, 1), (222, .laload, 1), (223, .iload 6, 2), (225, .i2l, 1), (226, .lcmp, 1), (227, .ifCond .eq 5, 3), (230, .iconst 0, 1), (231, .ireturn, 1), (232, .goto 924, 3)]
theorem mt_L_hole_ok : ∀ x ∈ mt_L_hole, decode code x.1 = .ok (x.2.1, x.2.2) := by decide +kernel
theorem mL_hole : mx_ok mY_La_law mf_La mt_L_hole := ⟨mt_L_hole_ok, mf_La_ok, fun w h => h⟩
set_option maxRecDepth 8000 in
theorem ls_hole (hl : l.stackTraces = false) (i1 : vp_in (nI i + 1) Lx) (i2 : vp_in (nI i + 2) Lx) (hA : mx_Ct l (pg_L (Lx, xs)) mY_La_hole d 1 [.ref 0, .int (lwA xs i), .int (lwB xs i), .ref 60] M (mx_rI th M1)) (hB : mx_Ct l (pg_L (Lx, xs)) mY_Mo_hole d 0 [.ref 41, .int (lwA xs i), .int (lwB xs i)] M1 (mx_rI b M2)) (ht : M2 41 0 = th) (hb : th = 0 → M2 60 0 = b) (kk : ∀ v5 v6 : Value, mx_E l (pg_L (Lx, xs)) mY_La_law (d + 1) n Q 1156 [.ref 1004, .ref 0, .ref 41, .ref 60, .int (nI i), v5, v6] [] M2) : ∀ v5 v6 : Value, mx_E l (pg_L (Lx, xs)) mY_La_law (d + 1) (n + 1) Q 167 [.ref 1004, .ref 0, .ref 41, .ref 60, .int (nI i), v5, v6] [] M := by
  intro v5 v6
  refine mx_cSW (n := n) (n0 := 4) (As := [.ref 0, .int (lwA xs i), .int (lwB xs i), .ref 60]) (rest := []) mL_hole 12 rfl hA rfl ⟨i1, i2, trivial⟩ rfl ks_La_78 kw_La_hole rfl rfl rfl ?_
  refine mx_cVi (n0 := 2) (As := [.int (lwA xs i), .int (lwB xs i)]) (rest := []) mL_hole 12 rfl hB rfl ⟨i1, i2, trivial⟩ rfl rfl rfl kv_La_83 kd_Mo_hole rfl rfl rfl ?_
  refine mx_cVi (n0 := 0) (As := []) (rest := []) mL_hole 2 rfl (ct_Mo_thrown hl) rfl trivial rfl rfl rfl kv_La_84 kd_Mo_thrown rfl rfl rfl ?_
  refine mx_if mL_hole 1 (t := 215) (f := 213) rfl trivial (fun _ => ?_) (fun q => absurd ht q)
  refine mx_if mL_hole 1 (t := 232) (f := 220) rfl trivial (fun _ => ?_) (fun (q : th = 0) => ?_)
  · exact mx_go mL_hole 1 rfl trivial (kk _ _)
  · refine mx_lald mL_hole 2 rfl trivial rfl rfl vp01 ?_
    refine mx_i2l mL_hole 1 rfl trivial rfl ?_
    refine mx_lcm mL_hole 0 rfl trivial rfl ?_
    refine mx_if mL_hole 0 (t := 232) (f := 230) rfl trivial (fun _ => ?_) (fun q2 => absurd ?_ q2)
    · exact mx_go mL_hole 1 rfl trivial (kk _ _)
    · have e := hb q
      rw [← e]
      exact lg_same _
def mt_L_freeze : mx_B := [(235, .aload_n 1, 1), (236, .aload_n 3, 1), (237, .invokestatic 87, 3), (240, .istore 5, 2), (242, .aload_n 2, 1), (243, .invokevirtual 90, 3), (246, .istore 6, 2), (248, .aload_n 2, 1), (249, .invokevirtual 84, 3), (252, .iload 5, 2), (254, .if_icmp .eq 5, 3), (257, .iconst 0, 1), (258, .ireturn, 1), (259, .iload 5, 2), (261, .ifCond .ne 15, 3), (264, .aload_n 3, 1), (265, .iconst 0, 1), (266, .laload, 1), (267, .iload 6, 2), (269, .i2l, 1), (270, .lcmp, 1), (271, .ifCond .eq 5, 3), (274, .iconst 0, 1), (275, .ireturn, 1), (276, .goto 880, 3)]
theorem mt_L_freeze_ok : ∀ x ∈ mt_L_freeze, decode code x.1 = .ok (x.2.1, x.2.2) := by decide +kernel
theorem mL_freeze : mx_ok mY_La_law mf_La mt_L_freeze := ⟨mt_L_freeze_ok, mf_La_ok, fun w h => h⟩
set_option maxRecDepth 8000 in
theorem ls_freeze (hl : l.stackTraces = false) (hA : mx_Ct l (pg_L (Lx, xs)) mY_La_freeze d 1 [.ref 0, .ref 60] M (mx_rI th M1)) (hB : mx_Ct l (pg_L (Lx, xs)) mY_Mo_freeze d 0 [.ref 41] M1 (mx_rI b M2)) (ht : M2 41 0 = th) (hb : th = 0 → M2 60 0 = b) (kk : ∀ v5 v6 : Value, mx_E l (pg_L (Lx, xs)) mY_La_law (d + 1) n Q 1156 [.ref 1004, .ref 0, .ref 41, .ref 60, .int (nI i), v5, v6] [] M2) : ∀ v5 v6 : Value, mx_E l (pg_L (Lx, xs)) mY_La_law (d + 1) (n + 1) Q 235 [.ref 1004, .ref 0, .ref 41, .ref 60, .int (nI i), v5, v6] [] M := by
  intro v5 v6
  refine mx_cSW (n := n) (n0 := 2) (As := [.ref 0, .ref 60]) (rest := []) mL_freeze 2 rfl hA rfl trivial rfl ks_La_87 kw_La_freeze rfl rfl rfl ?_
  refine mx_cVi (n0 := 0) (As := []) (rest := []) mL_freeze 2 rfl hB rfl trivial rfl rfl rfl kv_La_90 kd_Mo_freeze rfl rfl rfl ?_
  refine mx_cVi (n0 := 0) (As := []) (rest := []) mL_freeze 2 rfl (ct_Mo_thrown hl) rfl trivial rfl rfl rfl kv_La_84 kd_Mo_thrown rfl rfl rfl ?_
  refine mx_if mL_freeze 1 (t := 259) (f := 257) rfl trivial (fun _ => ?_) (fun q => absurd ht q)
  refine mx_if mL_freeze 1 (t := 276) (f := 264) rfl trivial (fun _ => ?_) (fun (q : th = 0) => ?_)
  · exact mx_go mL_freeze 1 rfl trivial (kk _ _)
  · refine mx_lald mL_freeze 2 rfl trivial rfl rfl vp01 ?_
    refine mx_i2l mL_freeze 1 rfl trivial rfl ?_
    refine mx_lcm mL_freeze 0 rfl trivial rfl ?_
    refine mx_if mL_freeze 0 (t := 276) (f := 274) rfl trivial (fun _ => ?_) (fun q2 => absurd ?_ q2)
    · exact mx_go mL_freeze 1 rfl trivial (kk _ _)
    · have e := hb q
      rw [← e]
      exact lg_same _
def mt_L_at : mx_B := [(279, .aload_n 1, 1), (280, .aload_n 0, 1), (281, .iload 4, 2), (283, .iconst 1, 1), (284, .iadd, 1), (285, .iaload, 1), (286, .aload_n 0, 1), (287, .iload 4, 2), (289, .iconst 2, 1), (290, .iadd, 1), (291, .iaload, 1), (292, .invokevirtual 91, 3), (295, .aload_n 2, 1), (296, .aload_n 0, 1), (297, .iload 4, 2), (299, .iconst 1, 1), (300, .iadd, 1), (301, .iaload, 1), (302, .aload_n 0, 1), (303, .iload 4, 2), (305, .iconst 2, 1), (306, .iadd, 1), (307, .iaload, 1), (308, .invokevirtual 94, 3), (311, .if_icmp .eq 845, 3), (314, .iconst 0, 1), (315, .ireturn, 1)]
theorem mt_L_at_ok : ∀ x ∈ mt_L_at, decode code x.1 = .ok (x.2.1, x.2.2) := by decide +kernel
theorem mL_at : mx_ok mY_La_law mf_La mt_L_at := ⟨mt_L_at_ok, mf_La_ok, fun w h => h⟩
set_option maxRecDepth 8000 in
theorem ls_at (hl : l.stackTraces = false) (i1 : vp_in (nI i + 1) Lx) (i2 : vp_in (nI i + 2) Lx) (hA : mx_Ct l (pg_L (Lx, xs)) mY_Pe_at d 0 [.ref 0, .int (lwA xs i), .int (lwB xs i)] M (mx_rI th M1)) (hB : mx_Ct l (pg_L (Lx, xs)) mY_Mo_at d 0 [.ref 41, .int (lwA xs i), .int (lwB xs i)] M1 (mx_rI b M2)) (hb : th = b) (kk : ∀ v5 v6 : Value, mx_E l (pg_L (Lx, xs)) mY_La_law (d + 1) n Q 1156 [.ref 1004, .ref 0, .ref 41, .ref 60, .int (nI i), v5, v6] [] M2) : ∀ v5 v6 : Value, mx_E l (pg_L (Lx, xs)) mY_La_law (d + 1) n Q 279 [.ref 1004, .ref 0, .ref 41, .ref 60, .int (nI i), v5, v6] [] M := by
  intro v5 v6
  refine mx_cVi (n0 := 2) (As := [.int (lwA xs i), .int (lwB xs i)]) (rest := []) mL_at 11 rfl hA rfl ⟨i1, i2, trivial⟩ rfl rfl rfl kv_La_91 kd_Pe_at rfl rfl rfl ?_
  refine mx_cVi (n0 := 2) (As := [.int (lwA xs i), .int (lwB xs i)]) (rest := [.int th]) mL_at 11 rfl hB rfl ⟨i1, i2, trivial⟩ rfl rfl rfl kv_La_94 kd_Mo_at rfl rfl rfl ?_
  exact mx_if mL_at 0 (t := 1156) (f := 314) rfl trivial (fun _ => kk _ _) (fun q => absurd hb q)
def mt_L_jump : mx_B := [(316, .aload_n 1, 1), (317, .aload_n 0, 1), (318, .iload 4, 2), (320, .iconst 1, 1), (321, .iadd, 1), (322, .iaload, 1), (323, .aload_n 0, 1), (324, .iload 4, 2), (326, .iconst 2, 1), (327, .iadd, 1), (328, .iaload, 1), (329, .aload_n 3, 1), (330, .invokestatic 95, 3), (333, .istore 5, 2), (335, .aload_n 2, 1), (336, .aload_n 0, 1), (337, .iload 4, 2), (339, .iconst 1, 1), (340, .iadd, 1), (341, .iaload, 1), (342, .aload_n 0, 1), (343, .iload 4, 2), (345, .iconst 2, 1), (346, .iadd, 1), (347, .iaload, 1), (348, .invokevirtual 97, 3), (351, .istore 6, 2), (353, .aload_n 2, 1), (354, .invokevirtual 84, 3), (357, .iload 5, 2), (359, .if_icmp .eq 5, 3), (362, .iconst 0, 1), (363, .ireturn, 1), (364, .iload 5, 2), (366, .ifCond .ne 15, 3), (369, .aload_n 3, 1), (370, .iconst 0, 1), (371, .laload, 1), (372, .iload 6, 2), (374, .i2l, 1), (375, .lcmp, 1), (376, .ifCond .eq 5, 3), (379, .iconst 0, 1), (380, .ireturn, 1), (381, .goto 775, 3)]
theorem mt_L_jump_ok : ∀ x ∈ mt_L_jump, decode code x.1 = .ok (x.2.1, x.2.2) := by decide +kernel
theorem mL_jump : mx_ok mY_La_law mf_La mt_L_jump := ⟨mt_L_jump_ok, mf_La_ok, fun w h => h⟩
set_option maxRecDepth 8000 in
theorem ls_jump (hl : l.stackTraces = false) (i1 : vp_in (nI i + 1) Lx) (i2 : vp_in (nI i + 2) Lx) (hA : mx_Ct l (pg_L (Lx, xs)) mY_La_jump d 2 [.ref 0, .int (lwA xs i), .int (lwB xs i), .ref 60] M (mx_rI th M1)) (hB : mx_Ct l (pg_L (Lx, xs)) mY_Mo_jump d 0 [.ref 41, .int (lwA xs i), .int (lwB xs i)] M1 (mx_rI b M2)) (ht : M2 41 0 = th) (hb : th = 0 → M2 60 0 = b) (kk : ∀ v5 v6 : Value, mx_E l (pg_L (Lx, xs)) mY_La_law (d + 1) n Q 1156 [.ref 1004, .ref 0, .ref 41, .ref 60, .int (nI i), v5, v6] [] M2) : ∀ v5 v6 : Value, mx_E l (pg_L (Lx, xs)) mY_La_law (d + 1) (n + 2) Q 316 [.ref 1004, .ref 0, .ref 41, .ref 60, .int (nI i), v5, v6] [] M := by
  intro v5 v6
  refine mx_cSW (n := n) (n0 := 4) (As := [.ref 0, .int (lwA xs i), .int (lwB xs i), .ref 60]) (rest := []) mL_jump 12 rfl hA rfl ⟨i1, i2, trivial⟩ rfl ks_La_95 kw_La_jump rfl rfl rfl ?_
  refine mx_cVi (n0 := 2) (As := [.int (lwA xs i), .int (lwB xs i)]) (rest := []) mL_jump 12 rfl hB rfl ⟨i1, i2, trivial⟩ rfl rfl rfl kv_La_97 kd_Mo_jump rfl rfl rfl ?_
  refine mx_cVi (n0 := 0) (As := []) (rest := []) mL_jump 2 rfl (ct_Mo_thrown hl) rfl trivial rfl rfl rfl kv_La_84 kd_Mo_thrown rfl rfl rfl ?_
  refine mx_if mL_jump 1 (t := 364) (f := 362) rfl trivial (fun _ => ?_) (fun q => absurd ht q)
  refine mx_if mL_jump 1 (t := 381) (f := 369) rfl trivial (fun _ => ?_) (fun (q : th = 0) => ?_)
  · exact mx_go mL_jump 1 rfl trivial (kk _ _)
  · refine mx_lald mL_jump 2 rfl trivial rfl rfl vp01 ?_
    refine mx_i2l mL_jump 1 rfl trivial rfl ?_
    refine mx_lcm mL_jump 0 rfl trivial rfl ?_
    refine mx_if mL_jump 0 (t := 381) (f := 379) rfl trivial (fun _ => ?_) (fun q2 => absurd ?_ q2)
    · exact mx_go mL_jump 1 rfl trivial (kk _ _)
    · have e := hb q
      rw [← e]
      exact lg_same _
def mt_L_place : mx_B := [(384, .aload_n 1, 1), (385, .aload_n 0, 1), (386, .iload 4, 2), (388, .iconst 1, 1), (389, .iadd, 1), (390, .iaload, 1), (391, .ifCond .eq 7, 3), (394, .iconst 1, 1), (395, .goto 4, 3), (398, .iconst 0, 1), (399, .aload_n 0, 1), (400, .iload 4, 2), (402, .iconst 2, 1), (403, .iadd, 1), (404, .iaload, 1), (405, .invokestatic 98, 3), (408, .istore 5, 2), (410, .aload_n 2, 1), (411, .aload_n 0, 1), (412, .iload 4, 2), (414, .iconst 1, 1), (415, .iadd, 1), (416, .iaload, 1), (417, .ifCond .eq 7, 3), (420, .iconst 1, 1), (421, .goto 4, 3), (424, .iconst 0, 1), (425, .aload_n 0, 1), (426, .iload 4, 2), (428, .iconst 2, 1), (429, .iadd, 1), (430, .iaload, 1), (431, .invokevirtual 101, 3), (434, .aload_n 2, 1), (435, .invokevirtual 84, 3), (438, .iload 5, 2), (440, .if_icmp .eq 5, 3), (443, .iconst 0, 1), (444, .ireturn, 1), (445, .goto 711, 3)]
theorem mt_L_place_ok : ∀ x ∈ mt_L_place, decode code x.1 = .ok (x.2.1, x.2.2) := by decide +kernel
theorem mL_place : mx_ok mY_La_law mf_La mt_L_place := ⟨mt_L_place_ok, mf_La_ok, fun w h => h⟩
set_option maxRecDepth 8000 in
theorem ls_place (hl : l.stackTraces = false) (i1 : vp_in (nI i + 1) Lx) (i2 : vp_in (nI i + 2) Lx) (hA : mx_Ct l (pg_L (Lx, xs)) mY_La_place d 1 [.ref 0, .int (lwz (lwA xs i)), .int (lwB xs i)] M (mx_rI th M1)) (hB : mx_Ct l (pg_L (Lx, xs)) mY_Mo_place d 0 [.ref 41, .int (lwz (lwA xs i)), .int (lwB xs i)] M1 (mx_rV M2)) (ht : M2 41 0 = th) (kk : ∀ v5 v6 : Value, mx_E l (pg_L (Lx, xs)) mY_La_law (d + 1) n Q 1156 [.ref 1004, .ref 0, .ref 41, .ref 60, .int (nI i), v5, v6] [] M2) : ∀ v5 v6 : Value, mx_E l (pg_L (Lx, xs)) mY_La_law (d + 1) (n + 1) Q 384 [.ref 1004, .ref 0, .ref 41, .ref 60, .int (nI i), v5, v6] [] M := by
  intro v5 v6
  have c2 : ∀ z, z = lwz (lwA xs i) → ∀ v6 : Value, mx_E l (pg_L (Lx, xs)) mY_La_law (d + 1) n Q 425 [.ref 1004, .ref 0, .ref 41, .ref 60, .int (nI i), .int th, v6] [.int z, .ref 41] M1 := by
    rintro z rfl v6
    refine mx_cVv (n0 := 2) (As := [.int (lwz (lwA xs i)), .int (lwB xs i)]) (rest := []) mL_place 5 rfl hB rfl ⟨i2, trivial⟩ rfl rfl rfl kv_La_101 kd_Mo_place rfl rfl rfl ?_
    refine mx_cVi (n0 := 0) (As := []) (rest := []) mL_place 1 rfl (ct_Mo_thrown hl) rfl trivial rfl rfl rfl kv_La_84 kd_Mo_thrown rfl rfl rfl ?_
    refine mx_if mL_place 1 (t := 445) (f := 443) rfl trivial (fun _ => ?_) (fun q => absurd ht q)
    exact mx_go mL_place 1 rfl trivial (kk _ _)
  have c1 : ∀ z, z = lwz (lwA xs i) → mx_E l (pg_L (Lx, xs)) mY_La_law (d + 1) (n + 1) Q 399 [.ref 1004, .ref 0, .ref 41, .ref 60, .int (nI i), v5, v6] [.int z, .ref 0] M := by
    rintro z rfl
    refine mx_cSW (n := n) (n0 := 3) (As := [.ref 0, .int (lwz (lwA xs i)), .int (lwB xs i)]) (rest := []) mL_place 5 rfl hA rfl ⟨i2, trivial⟩ rfl ks_La_98 kw_La_place rfl rfl rfl ?_
    refine mx_if mL_place 7 (t := 424) (f := 420) rfl ⟨i1, trivial⟩ (fun (q : lwA xs i = 0) => ?_) (fun (q : ¬ lwA xs i = 0) => ?_)
    · exact mx_go mL_place 1 rfl trivial (c2 0 (by rw [lwz, if_pos q]) _)
    · exact mx_go mL_place 2 rfl trivial (c2 1 (by rw [lwz, if_neg q]) _)
  refine mx_if mL_place 6 (t := 398) (f := 394) rfl ⟨i1, trivial⟩ (fun (q : lwA xs i = 0) => ?_) (fun (q : ¬ lwA xs i = 0) => ?_)
  · exact mx_go mL_place 1 rfl trivial (c1 0 (by rw [lwz, if_pos q]))
  · exact mx_go mL_place 2 rfl trivial (c1 1 (by rw [lwz, if_neg q]))
def mt_L_after : mx_B := [(448, .aload_n 1, 1), (449, .aload_n 0, 1), (450, .iload 4, 2), (452, .iconst 1, 1), (453, .iadd, 1), (454, .iaload, 1), (455, .aload_n 0, 1), (456, .iload 4, 2), (458, .iconst 2, 1), (459, .iadd, 1), (460, .iaload, 1), (461, .aload_n 3, 1), (462, .invokestatic 102, 3), (465, .istore 5, 2), (467, .aload_n 2, 1), (468, .aload_n 0, 1), (469, .iload 4, 2), (471, .iconst 1, 1), (472, .iadd, 1), (473, .iaload, 1), (474, .aload_n 0, 1), (475, .iload 4, 2), (477, .iconst 2, 1), (478, .iadd, 1), (479, .iaload, 1), (480, .invokevirtual 104, 3), (483, .istore 6, 2), (485, .aload_n 2, 1), (486, .invokevirtual 84, 3), (489, .iload 5, 2), (491, .if_icmp .eq 5, 3), (494, .iconst 0, 1), (495, .ireturn, 1), (496, .iload 5, 2), (498, .ifCond .ne 15, 3), (501, .aload_n 3, 1), (502, .iconst 0, 1), (503, .laload, 1), (504, .iload 6, 2), (506, .i2l, 1), (507, .lcmp, 1), (508, .ifCond .eq 5, 3), (511, .iconst 0, 1), (512, .ireturn, 1), (513, .goto 643, 3)]
theorem mt_L_after_ok : ∀ x ∈ mt_L_after, decode code x.1 = .ok (x.2.1, x.2.2) := by decide +kernel
theorem mL_after : mx_ok mY_La_law mf_La mt_L_after := ⟨mt_L_after_ok, mf_La_ok, fun w h => h⟩
set_option maxRecDepth 8000 in
theorem ls_after (hl : l.stackTraces = false) (i1 : vp_in (nI i + 1) Lx) (i2 : vp_in (nI i + 2) Lx) (hA : mx_Ct l (pg_L (Lx, xs)) mY_La_after d 2 [.ref 0, .int (lwA xs i), .int (lwB xs i), .ref 60] M (mx_rI th M1)) (hB : mx_Ct l (pg_L (Lx, xs)) mY_Mo_after d 0 [.ref 41, .int (lwA xs i), .int (lwB xs i)] M1 (mx_rI b M2)) (ht : M2 41 0 = th) (hb : th = 0 → M2 60 0 = b) (kk : ∀ v5 v6 : Value, mx_E l (pg_L (Lx, xs)) mY_La_law (d + 1) n Q 1156 [.ref 1004, .ref 0, .ref 41, .ref 60, .int (nI i), v5, v6] [] M2) : ∀ v5 v6 : Value, mx_E l (pg_L (Lx, xs)) mY_La_law (d + 1) (n + 2) Q 448 [.ref 1004, .ref 0, .ref 41, .ref 60, .int (nI i), v5, v6] [] M := by
  intro v5 v6
  refine mx_cSW (n := n) (n0 := 4) (As := [.ref 0, .int (lwA xs i), .int (lwB xs i), .ref 60]) (rest := []) mL_after 12 rfl hA rfl ⟨i1, i2, trivial⟩ rfl ks_La_102 kw_La_after rfl rfl rfl ?_
  refine mx_cVi (n0 := 2) (As := [.int (lwA xs i), .int (lwB xs i)]) (rest := []) mL_after 12 rfl hB rfl ⟨i1, i2, trivial⟩ rfl rfl rfl kv_La_104 kd_Mo_after rfl rfl rfl ?_
  refine mx_cVi (n0 := 0) (As := []) (rest := []) mL_after 2 rfl (ct_Mo_thrown hl) rfl trivial rfl rfl rfl kv_La_84 kd_Mo_thrown rfl rfl rfl ?_
  refine mx_if mL_after 1 (t := 496) (f := 494) rfl trivial (fun _ => ?_) (fun q => absurd ht q)
  refine mx_if mL_after 1 (t := 513) (f := 501) rfl trivial (fun _ => ?_) (fun (q : th = 0) => ?_)
  · exact mx_go mL_after 1 rfl trivial (kk _ _)
  · refine mx_lald mL_after 2 rfl trivial rfl rfl vp01 ?_
    refine mx_i2l mL_after 1 rfl trivial rfl ?_
    refine mx_lcm mL_after 0 rfl trivial rfl ?_
    refine mx_if mL_after 0 (t := 513) (f := 511) rfl trivial (fun _ => ?_) (fun q2 => absurd ?_ q2)
    · exact mx_go mL_after 1 rfl trivial (kk _ _)
    · have e := hb q
      rw [← e]
      exact lg_same _
def mt_L_count : mx_B := [(516, .aload_n 1, 1), (517, .aload_n 0, 1), (518, .iload 4, 2), (520, .iconst 1, 1), (521, .iadd, 1), (522, .iaload, 1), (523, .aload_n 3, 1), (524, .invokestatic 105, 3), (527, .istore 5, 2), (529, .aload_n 2, 1), (530, .aload_n 0, 1), (531, .iload 4, 2), (533, .iconst 1, 1), (534, .iadd, 1), (535, .iaload, 1), (536, .invokevirtual 108, 3), (539, .istore 6, 2), (541, .aload_n 2, 1), (542, .invokevirtual 84, 3), (545, .iload 5, 2), (547, .if_icmp .eq 5, 3), (550, .iconst 0, 1), (551, .ireturn, 1), (552, .iload 5, 2), (554, .ifCond .ne 15, 3), (557, .aload_n 3, 1), (558, .iconst 0, 1), (559, .laload, 1), (560, .iload 6, 2), (562, .i2l, 1), (563, .lcmp, 1), (564, .ifCond .eq 5, 3), (567, .iconst 0, 1), (568, .ireturn, 1), (569, .goto 587, 3)]
theorem mt_L_count_ok : ∀ x ∈ mt_L_count, decode code x.1 = .ok (x.2.1, x.2.2) := by decide +kernel
theorem mL_count : mx_ok mY_La_law mf_La mt_L_count := ⟨mt_L_count_ok, mf_La_ok, fun w h => h⟩
set_option maxRecDepth 8000 in
theorem ls_count (hl : l.stackTraces = false) (i1 : vp_in (nI i + 1) Lx) (hA : mx_Ct l (pg_L (Lx, xs)) mY_La_count d 2 [.ref 0, .int (lwA xs i), .ref 60] M (mx_rI th M1)) (hB : mx_Ct l (pg_L (Lx, xs)) mY_Mo_count d 0 [.ref 41, .int (lwA xs i)] M1 (mx_rI b M2)) (ht : M2 41 0 = th) (hb : th = 0 → M2 60 0 = b) (kk : ∀ v5 v6 : Value, mx_E l (pg_L (Lx, xs)) mY_La_law (d + 1) n Q 1156 [.ref 1004, .ref 0, .ref 41, .ref 60, .int (nI i), v5, v6] [] M2) : ∀ v5 v6 : Value, mx_E l (pg_L (Lx, xs)) mY_La_law (d + 1) (n + 2) Q 516 [.ref 1004, .ref 0, .ref 41, .ref 60, .int (nI i), v5, v6] [] M := by
  intro v5 v6
  refine mx_cSW (n := n) (n0 := 3) (As := [.ref 0, .int (lwA xs i), .ref 60]) (rest := []) mL_count 7 rfl hA rfl ⟨i1, trivial⟩ rfl ks_La_105 kw_La_count rfl rfl rfl ?_
  refine mx_cVi (n0 := 1) (As := [.int (lwA xs i)]) (rest := []) mL_count 7 rfl hB rfl ⟨i1, trivial⟩ rfl rfl rfl kv_La_108 kd_Mo_count rfl rfl rfl ?_
  refine mx_cVi (n0 := 0) (As := []) (rest := []) mL_count 2 rfl (ct_Mo_thrown hl) rfl trivial rfl rfl rfl kv_La_84 kd_Mo_thrown rfl rfl rfl ?_
  refine mx_if mL_count 1 (t := 552) (f := 550) rfl trivial (fun _ => ?_) (fun q => absurd ht q)
  refine mx_if mL_count 1 (t := 569) (f := 557) rfl trivial (fun _ => ?_) (fun (q : th = 0) => ?_)
  · exact mx_go mL_count 1 rfl trivial (kk _ _)
  · refine mx_lald mL_count 2 rfl trivial rfl rfl vp01 ?_
    refine mx_i2l mL_count 1 rfl trivial rfl ?_
    refine mx_lcm mL_count 0 rfl trivial rfl ?_
    refine mx_if mL_count 0 (t := 569) (f := 567) rfl trivial (fun _ => ?_) (fun q2 => absurd ?_ q2)
    · exact mx_go mL_count 1 rfl trivial (kk _ _)
    · have e := hb q
      rw [← e]
      exact lg_same _
def mt_L_solve : mx_B := [(572, .aload_n 1, 1), (573, .aload_n 0, 1), (574, .iload 4, 2), (576, .iconst 1, 1), (577, .iadd, 1), (578, .iaload, 1), (579, .aload_n 3, 1), (580, .invokestatic 109, 3), (583, .istore 5, 2), (585, .aload_n 2, 1), (586, .aload_n 0, 1), (587, .iload 4, 2), (589, .iconst 1, 1), (590, .iadd, 1), (591, .iaload, 1), (592, .invokevirtual 111, 3), (595, .istore 6, 2), (597, .aload_n 2, 1), (598, .invokevirtual 84, 3), (601, .iload 5, 2), (603, .if_icmp .eq 5, 3), (606, .iconst 0, 1), (607, .ireturn, 1), (608, .iload 5, 2), (610, .ifCond .ne 15, 3), (613, .aload_n 3, 1), (614, .iconst 0, 1), (615, .laload, 1), (616, .iload 6, 2), (618, .i2l, 1), (619, .lcmp, 1), (620, .ifCond .eq 5, 3), (623, .iconst 0, 1), (624, .ireturn, 1), (625, .goto 531, 3)]
theorem mt_L_solve_ok : ∀ x ∈ mt_L_solve, decode code x.1 = .ok (x.2.1, x.2.2) := by decide +kernel
theorem mL_solve : mx_ok mY_La_law mf_La mt_L_solve := ⟨mt_L_solve_ok, mf_La_ok, fun w h => h⟩
set_option maxRecDepth 8000 in
theorem ls_solve (hl : l.stackTraces = false) (i1 : vp_in (nI i + 1) Lx) (hA : mx_Ct l (pg_L (Lx, xs)) mY_La_solve d 2 [.ref 0, .int (lwA xs i), .ref 60] M (mx_rI th M1)) (hB : mx_Ct l (pg_L (Lx, xs)) mY_Mo_solve d 0 [.ref 41, .int (lwA xs i)] M1 (mx_rI b M2)) (ht : M2 41 0 = th) (hb : th = 0 → M2 60 0 = b) (kk : ∀ v5 v6 : Value, mx_E l (pg_L (Lx, xs)) mY_La_law (d + 1) n Q 1156 [.ref 1004, .ref 0, .ref 41, .ref 60, .int (nI i), v5, v6] [] M2) : ∀ v5 v6 : Value, mx_E l (pg_L (Lx, xs)) mY_La_law (d + 1) (n + 2) Q 572 [.ref 1004, .ref 0, .ref 41, .ref 60, .int (nI i), v5, v6] [] M := by
  intro v5 v6
  refine mx_cSW (n := n) (n0 := 3) (As := [.ref 0, .int (lwA xs i), .ref 60]) (rest := []) mL_solve 7 rfl hA rfl ⟨i1, trivial⟩ rfl ks_La_109 kw_La_solve rfl rfl rfl ?_
  refine mx_cVi (n0 := 1) (As := [.int (lwA xs i)]) (rest := []) mL_solve 7 rfl hB rfl ⟨i1, trivial⟩ rfl rfl rfl kv_La_111 kd_Mo_solve rfl rfl rfl ?_
  refine mx_cVi (n0 := 0) (As := []) (rest := []) mL_solve 2 rfl (ct_Mo_thrown hl) rfl trivial rfl rfl rfl kv_La_84 kd_Mo_thrown rfl rfl rfl ?_
  refine mx_if mL_solve 1 (t := 608) (f := 606) rfl trivial (fun _ => ?_) (fun q => absurd ht q)
  refine mx_if mL_solve 1 (t := 625) (f := 613) rfl trivial (fun _ => ?_) (fun (q : th = 0) => ?_)
  · exact mx_go mL_solve 1 rfl trivial (kk _ _)
  · refine mx_lald mL_solve 2 rfl trivial rfl rfl vp01 ?_
    refine mx_i2l mL_solve 1 rfl trivial rfl ?_
    refine mx_lcm mL_solve 0 rfl trivial rfl ?_
    refine mx_if mL_solve 0 (t := 625) (f := 623) rfl trivial (fun _ => ?_) (fun q2 => absurd ?_ q2)
    · exact mx_go mL_solve 1 rfl trivial (kk _ _)
    · have e := hb q
      rw [← e]
      exact lg_same _
def mt_L_way : mx_B := [(628, .aload_n 1, 1), (629, .aload_n 0, 1), (630, .iload 4, 2), (632, .iconst 1, 1), (633, .iadd, 1), (634, .iaload, 1), (635, .aload_n 0, 1), (636, .iload 4, 2), (638, .iconst 2, 1), (639, .iadd, 1), (640, .iaload, 1), (641, .aload_n 3, 1), (642, .invokestatic 112, 3), (645, .istore 5, 2), (647, .aload_n 2, 1), (648, .aload_n 0, 1), (649, .iload 4, 2), (651, .iconst 1, 1), (652, .iadd, 1), (653, .iaload, 1), (654, .aload_n 0, 1), (655, .iload 4, 2), (657, .iconst 2, 1), (658, .iadd, 1), (659, .iaload, 1), (660, .invokevirtual 114, 3), (663, .istore 6, 2), (665, .aload_n 2, 1), (666, .invokevirtual 84, 3), (669, .iload 5, 2), (671, .if_icmp .eq 5, 3), (674, .iconst 0, 1), (675, .ireturn, 1), (676, .iload 5, 2), (678, .ifCond .ne 15, 3), (681, .aload_n 3, 1), (682, .iconst 0, 1), (683, .laload, 1), (684, .iload 6, 2), (686, .i2l, 1), (687, .lcmp, 1), (688, .ifCond .eq 5, 3), (691, .iconst 0, 1), (692, .ireturn, 1), (693, .goto 463, 3)]
theorem mt_L_way_ok : ∀ x ∈ mt_L_way, decode code x.1 = .ok (x.2.1, x.2.2) := by decide +kernel
theorem mL_way : mx_ok mY_La_law mf_La mt_L_way := ⟨mt_L_way_ok, mf_La_ok, fun w h => h⟩
set_option maxRecDepth 8000 in
theorem ls_way (hl : l.stackTraces = false) (i1 : vp_in (nI i + 1) Lx) (i2 : vp_in (nI i + 2) Lx) (hA : mx_Ct l (pg_L (Lx, xs)) mY_La_way d 2 [.ref 0, .int (lwA xs i), .int (lwB xs i), .ref 60] M (mx_rI th M1)) (hB : mx_Ct l (pg_L (Lx, xs)) mY_Mo_way d 0 [.ref 41, .int (lwA xs i), .int (lwB xs i)] M1 (mx_rI b M2)) (ht : M2 41 0 = th) (hb : th = 0 → M2 60 0 = b) (kk : ∀ v5 v6 : Value, mx_E l (pg_L (Lx, xs)) mY_La_law (d + 1) n Q 1156 [.ref 1004, .ref 0, .ref 41, .ref 60, .int (nI i), v5, v6] [] M2) : ∀ v5 v6 : Value, mx_E l (pg_L (Lx, xs)) mY_La_law (d + 1) (n + 2) Q 628 [.ref 1004, .ref 0, .ref 41, .ref 60, .int (nI i), v5, v6] [] M := by
  intro v5 v6
  refine mx_cSW (n := n) (n0 := 4) (As := [.ref 0, .int (lwA xs i), .int (lwB xs i), .ref 60]) (rest := []) mL_way 12 rfl hA rfl ⟨i1, i2, trivial⟩ rfl ks_La_112 kw_La_way rfl rfl rfl ?_
  refine mx_cVi (n0 := 2) (As := [.int (lwA xs i), .int (lwB xs i)]) (rest := []) mL_way 12 rfl hB rfl ⟨i1, i2, trivial⟩ rfl rfl rfl kv_La_114 kd_Mo_way rfl rfl rfl ?_
  refine mx_cVi (n0 := 0) (As := []) (rest := []) mL_way 2 rfl (ct_Mo_thrown hl) rfl trivial rfl rfl rfl kv_La_84 kd_Mo_thrown rfl rfl rfl ?_
  refine mx_if mL_way 1 (t := 676) (f := 674) rfl trivial (fun _ => ?_) (fun q => absurd ht q)
  refine mx_if mL_way 1 (t := 693) (f := 681) rfl trivial (fun _ => ?_) (fun (q : th = 0) => ?_)
  · exact mx_go mL_way 1 rfl trivial (kk _ _)
  · refine mx_lald mL_way 2 rfl trivial rfl rfl vp01 ?_
    refine mx_i2l mL_way 1 rfl trivial rfl ?_
    refine mx_lcm mL_way 0 rfl trivial rfl ?_
    refine mx_if mL_way 0 (t := 693) (f := 691) rfl trivial (fun _ => ?_) (fun q2 => absurd ?_ q2)
    · exact mx_go mL_way 1 rfl trivial (kk _ _)
    · have e := hb q
      rw [← e]
      exact lg_same _
def mt_L_moves : mx_B := [(696, .aload_n 1, 1), (697, .aload_n 0, 1), (698, .iload 4, 2), (700, .iconst 1, 1), (701, .iadd, 1), (702, .iaload, 1), (703, .aload_n 3, 1), (704, .invokestatic 115, 3), (707, .istore 5, 2), (709, .aload_n 2, 1), (710, .aload_n 0, 1), (711, .iload 4, 2), (713, .iconst 1, 1), (714, .iadd, 1), (715, .iaload, 1), (716, .invokevirtual 117, 3), (719, .istore 6, 2), (721, .aload_n 2, 1), (722, .invokevirtual 84, 3), (725, .iload 5, 2), (727, .if_icmp .eq 5, 3), (730, .iconst 0, 1), (731, .ireturn, 1), (732, .iload 5, 2), (734, .ifCond .ne 15, 3), (737, .aload_n 3, 1), (738, .iconst 0, 1), (739, .laload, 1), (740, .iload 6, 2), (742, .i2l, 1), (743, .lcmp, 1), (744, .ifCond .eq 5, 3), (747, .iconst 0, 1), (748, .ireturn, 1), (749, .goto 407, 3)]
theorem mt_L_moves_ok : ∀ x ∈ mt_L_moves, decode code x.1 = .ok (x.2.1, x.2.2) := by decide +kernel
theorem mL_moves : mx_ok mY_La_law mf_La mt_L_moves := ⟨mt_L_moves_ok, mf_La_ok, fun w h => h⟩
set_option maxRecDepth 8000 in
theorem ls_moves (hl : l.stackTraces = false) (i1 : vp_in (nI i + 1) Lx) (hA : mx_Ct l (pg_L (Lx, xs)) mY_La_moves d 2 [.ref 0, .int (lwA xs i), .ref 60] M (mx_rI th M1)) (hB : mx_Ct l (pg_L (Lx, xs)) mY_Mo_moves d 0 [.ref 41, .int (lwA xs i)] M1 (mx_rI b M2)) (ht : M2 41 0 = th) (hb : th = 0 → M2 60 0 = b) (kk : ∀ v5 v6 : Value, mx_E l (pg_L (Lx, xs)) mY_La_law (d + 1) n Q 1156 [.ref 1004, .ref 0, .ref 41, .ref 60, .int (nI i), v5, v6] [] M2) : ∀ v5 v6 : Value, mx_E l (pg_L (Lx, xs)) mY_La_law (d + 1) (n + 2) Q 696 [.ref 1004, .ref 0, .ref 41, .ref 60, .int (nI i), v5, v6] [] M := by
  intro v5 v6
  refine mx_cSW (n := n) (n0 := 3) (As := [.ref 0, .int (lwA xs i), .ref 60]) (rest := []) mL_moves 7 rfl hA rfl ⟨i1, trivial⟩ rfl ks_La_115 kw_La_moves rfl rfl rfl ?_
  refine mx_cVi (n0 := 1) (As := [.int (lwA xs i)]) (rest := []) mL_moves 7 rfl hB rfl ⟨i1, trivial⟩ rfl rfl rfl kv_La_117 kd_Mo_moves rfl rfl rfl ?_
  refine mx_cVi (n0 := 0) (As := []) (rest := []) mL_moves 2 rfl (ct_Mo_thrown hl) rfl trivial rfl rfl rfl kv_La_84 kd_Mo_thrown rfl rfl rfl ?_
  refine mx_if mL_moves 1 (t := 732) (f := 730) rfl trivial (fun _ => ?_) (fun q => absurd ht q)
  refine mx_if mL_moves 1 (t := 749) (f := 737) rfl trivial (fun _ => ?_) (fun (q : th = 0) => ?_)
  · exact mx_go mL_moves 1 rfl trivial (kk _ _)
  · refine mx_lald mL_moves 2 rfl trivial rfl rfl vp01 ?_
    refine mx_i2l mL_moves 1 rfl trivial rfl ?_
    refine mx_lcm mL_moves 0 rfl trivial rfl ?_
    refine mx_if mL_moves 0 (t := 749) (f := 747) rfl trivial (fun _ => ?_) (fun q2 => absurd ?_ q2)
    · exact mx_go mL_moves 1 rfl trivial (kk _ _)
    · have e := hb q
      rw [← e]
      exact lg_same _
def mt_L_classes : mx_B := [(752, .aload_n 1, 1), (753, .aload_n 0, 1), (754, .iload 4, 2), (756, .iconst 1, 1), (757, .iadd, 1), (758, .iaload, 1), (759, .aload_n 3, 1), (760, .invokestatic 118, 3), (763, .istore 5, 2), (765, .aload_n 2, 1), (766, .aload_n 0, 1), (767, .iload 4, 2), (769, .iconst 1, 1), (770, .iadd, 1), (771, .iaload, 1), (772, .invokevirtual 120, 3), (775, .istore 6, 2), (777, .aload_n 2, 1), (778, .invokevirtual 84, 3), (781, .iload 5, 2), (783, .if_icmp .eq 5, 3), (786, .iconst 0, 1), (787, .ireturn, 1), (788, .iload 5, 2), (790, .ifCond .ne 15, 3), (793, .aload_n 3, 1), (794, .iconst 0, 1), (795, .laload, 1), (796, .iload 6, 2), (798, .i2l, 1), (799, .lcmp, 1), (800, .ifCond .eq 5, 3), (803, .iconst 0, 1), (804, .ireturn, 1), (805, .goto 351, 3)]
theorem mt_L_classes_ok : ∀ x ∈ mt_L_classes, decode code x.1 = .ok (x.2.1, x.2.2) := by decide +kernel
theorem mL_classes : mx_ok mY_La_law mf_La mt_L_classes := ⟨mt_L_classes_ok, mf_La_ok, fun w h => h⟩
set_option maxRecDepth 8000 in
theorem ls_classes (hl : l.stackTraces = false) (i1 : vp_in (nI i + 1) Lx) (hA : mx_Ct l (pg_L (Lx, xs)) mY_La_classes d 2 [.ref 0, .int (lwA xs i), .ref 60] M (mx_rI th M1)) (hB : mx_Ct l (pg_L (Lx, xs)) mY_Mo_classes d 0 [.ref 41, .int (lwA xs i)] M1 (mx_rI b M2)) (ht : M2 41 0 = th) (hb : th = 0 → M2 60 0 = b) (kk : ∀ v5 v6 : Value, mx_E l (pg_L (Lx, xs)) mY_La_law (d + 1) n Q 1156 [.ref 1004, .ref 0, .ref 41, .ref 60, .int (nI i), v5, v6] [] M2) : ∀ v5 v6 : Value, mx_E l (pg_L (Lx, xs)) mY_La_law (d + 1) (n + 2) Q 752 [.ref 1004, .ref 0, .ref 41, .ref 60, .int (nI i), v5, v6] [] M := by
  intro v5 v6
  refine mx_cSW (n := n) (n0 := 3) (As := [.ref 0, .int (lwA xs i), .ref 60]) (rest := []) mL_classes 7 rfl hA rfl ⟨i1, trivial⟩ rfl ks_La_118 kw_La_classes rfl rfl rfl ?_
  refine mx_cVi (n0 := 1) (As := [.int (lwA xs i)]) (rest := []) mL_classes 7 rfl hB rfl ⟨i1, trivial⟩ rfl rfl rfl kv_La_120 kd_Mo_classes rfl rfl rfl ?_
  refine mx_cVi (n0 := 0) (As := []) (rest := []) mL_classes 2 rfl (ct_Mo_thrown hl) rfl trivial rfl rfl rfl kv_La_84 kd_Mo_thrown rfl rfl rfl ?_
  refine mx_if mL_classes 1 (t := 788) (f := 786) rfl trivial (fun _ => ?_) (fun q => absurd ht q)
  refine mx_if mL_classes 1 (t := 805) (f := 793) rfl trivial (fun _ => ?_) (fun (q : th = 0) => ?_)
  · exact mx_go mL_classes 1 rfl trivial (kk _ _)
  · refine mx_lald mL_classes 2 rfl trivial rfl rfl vp01 ?_
    refine mx_i2l mL_classes 1 rfl trivial rfl ?_
    refine mx_lcm mL_classes 0 rfl trivial rfl ?_
    refine mx_if mL_classes 0 (t := 805) (f := 803) rfl trivial (fun _ => ?_) (fun q2 => absurd ?_ q2)
    · exact mx_go mL_classes 1 rfl trivial (kk _ _)
    · have e := hb q
      rw [← e]
      exact lg_same _
def mt_L_symmetries : mx_B := [(808, .aload_n 1, 1), (809, .invokevirtual 121, 3), (812, .aload_n 2, 1), (813, .invokevirtual 124, 3), (816, .if_icmp .eq 340, 3), (819, .iconst 0, 1), (820, .ireturn, 1)]
theorem mt_L_symmetries_ok : ∀ x ∈ mt_L_symmetries, decode code x.1 = .ok (x.2.1, x.2.2) := by decide +kernel
theorem mL_symmetries : mx_ok mY_La_law mf_La mt_L_symmetries := ⟨mt_L_symmetries_ok, mf_La_ok, fun w h => h⟩
set_option maxRecDepth 8000 in
theorem ls_symmetries (hl : l.stackTraces = false) (hA : mx_Ct l (pg_L (Lx, xs)) mY_Pe_symmetries d 0 [.ref 0] M (mx_rI th M1)) (hB : mx_Ct l (pg_L (Lx, xs)) mY_Mo_symmetries d 0 [.ref 41] M1 (mx_rI b M2)) (hb : th = b) (kk : ∀ v5 v6 : Value, mx_E l (pg_L (Lx, xs)) mY_La_law (d + 1) n Q 1156 [.ref 1004, .ref 0, .ref 41, .ref 60, .int (nI i), v5, v6] [] M2) : ∀ v5 v6 : Value, mx_E l (pg_L (Lx, xs)) mY_La_law (d + 1) n Q 808 [.ref 1004, .ref 0, .ref 41, .ref 60, .int (nI i), v5, v6] [] M := by
  intro v5 v6
  refine mx_cVi (n0 := 0) (As := []) (rest := []) mL_symmetries 1 rfl hA rfl trivial rfl rfl rfl kv_La_121 kd_Pe_symmetries rfl rfl rfl ?_
  refine mx_cVi (n0 := 0) (As := []) (rest := [.int th]) mL_symmetries 1 rfl hB rfl trivial rfl rfl rfl kv_La_124 kd_Mo_symmetries rfl rfl rfl ?_
  exact mx_if mL_symmetries 0 (t := 1156) (f := 819) rfl trivial (fun _ => kk _ _) (fun q => absurd hb q)
def mt_L_image : mx_B := [(821, .aload_n 1, 1), (822, .aload_n 0, 1), (823, .iload 4, 2), (825, .iconst 1, 1), (826, .iadd, 1), (827, .iaload, 1), (828, .aload_n 0, 1), (829, .iload 4, 2), (831, .iconst 2, 1), (832, .iadd, 1), (833, .iaload, 1), (834, .aload_n 3, 1), (835, .invokestatic 125, 3), (838, .istore 5, 2), (840, .aload_n 2, 1), (841, .aload_n 0, 1), (842, .iload 4, 2), (844, .iconst 1, 1), (845, .iadd, 1), (846, .iaload, 1), (847, .aload_n 0, 1), (848, .iload 4, 2), (850, .iconst 2, 1), (851, .iadd, 1), (852, .iaload, 1), (853, .invokevirtual 127, 3), (856, .istore 6, 2), (858, .aload_n 2, 1), (859, .invokevirtual 84, 3), (862, .iload 5, 2), (864, .if_icmp .eq 5, 3), (867, .iconst 0, 1), (868, .ireturn, 1), (869, .iload 5, 2), (871, .ifCond .ne 15, 3), (874, .aload_n 3, 1), (875, .iconst 0, 1), (876, .laload, 1), (877, .iload 6, 2), (879, .i2l, 1), (880, .lcmp, 1), (881, .ifCond .eq 5, 3), (884, .iconst 0, 1), (885, .ireturn, 1), (886, .goto 270, 3)]
theorem mt_L_image_ok : ∀ x ∈ mt_L_image, decode code x.1 = .ok (x.2.1, x.2.2) := by decide +kernel
theorem mL_image : mx_ok mY_La_law mf_La mt_L_image := ⟨mt_L_image_ok, mf_La_ok, fun w h => h⟩
set_option maxRecDepth 8000 in
theorem ls_image (hl : l.stackTraces = false) (i1 : vp_in (nI i + 1) Lx) (i2 : vp_in (nI i + 2) Lx) (hA : mx_Ct l (pg_L (Lx, xs)) mY_La_image d 2 [.ref 0, .int (lwA xs i), .int (lwB xs i), .ref 60] M (mx_rI th M1)) (hB : mx_Ct l (pg_L (Lx, xs)) mY_Mo_image d 0 [.ref 41, .int (lwA xs i), .int (lwB xs i)] M1 (mx_rI b M2)) (ht : M2 41 0 = th) (hb : th = 0 → M2 60 0 = b) (kk : ∀ v5 v6 : Value, mx_E l (pg_L (Lx, xs)) mY_La_law (d + 1) n Q 1156 [.ref 1004, .ref 0, .ref 41, .ref 60, .int (nI i), v5, v6] [] M2) : ∀ v5 v6 : Value, mx_E l (pg_L (Lx, xs)) mY_La_law (d + 1) (n + 2) Q 821 [.ref 1004, .ref 0, .ref 41, .ref 60, .int (nI i), v5, v6] [] M := by
  intro v5 v6
  refine mx_cSW (n := n) (n0 := 4) (As := [.ref 0, .int (lwA xs i), .int (lwB xs i), .ref 60]) (rest := []) mL_image 12 rfl hA rfl ⟨i1, i2, trivial⟩ rfl ks_La_125 kw_La_image rfl rfl rfl ?_
  refine mx_cVi (n0 := 2) (As := [.int (lwA xs i), .int (lwB xs i)]) (rest := []) mL_image 12 rfl hB rfl ⟨i1, i2, trivial⟩ rfl rfl rfl kv_La_127 kd_Mo_image rfl rfl rfl ?_
  refine mx_cVi (n0 := 0) (As := []) (rest := []) mL_image 2 rfl (ct_Mo_thrown hl) rfl trivial rfl rfl rfl kv_La_84 kd_Mo_thrown rfl rfl rfl ?_
  refine mx_if mL_image 1 (t := 869) (f := 867) rfl trivial (fun _ => ?_) (fun q => absurd ht q)
  refine mx_if mL_image 1 (t := 886) (f := 874) rfl trivial (fun _ => ?_) (fun (q : th = 0) => ?_)
  · exact mx_go mL_image 1 rfl trivial (kk _ _)
  · refine mx_lald mL_image 2 rfl trivial rfl rfl vp01 ?_
    refine mx_i2l mL_image 1 rfl trivial rfl ?_
    refine mx_lcm mL_image 0 rfl trivial rfl ?_
    refine mx_if mL_image 0 (t := 886) (f := 884) rfl trivial (fun _ => ?_) (fun q2 => absurd ?_ q2)
    · exact mx_go mL_image 1 rfl trivial (kk _ _)
    · have e := hb q
      rw [← e]
      exact lg_same _
def mt_L_least : mx_B := [(889, .aload_n 1, 1), (890, .aload_n 0, 1), (891, .iload 4, 2), (893, .iconst 1, 1), (894, .iadd, 1), (895, .iaload, 1), (896, .aload_n 3, 1), (897, .invokestatic 128, 3), (900, .istore 5, 2), (902, .aload_n 2, 1), (903, .aload_n 0, 1), (904, .iload 4, 2), (906, .iconst 1, 1), (907, .iadd, 1), (908, .iaload, 1), (909, .invokevirtual 130, 3), (912, .istore 6, 2), (914, .aload_n 2, 1), (915, .invokevirtual 84, 3), (918, .iload 5, 2), (920, .if_icmp .eq 5, 3), (923, .iconst 0, 1), (924, .ireturn, 1), (925, .iload 5, 2), (927, .ifCond .ne 15, 3), (930, .aload_n 3, 1), (931, .iconst 0, 1), (932, .laload, 1), (933, .iload 6, 2), (935, .i2l, 1), (936, .lcmp, 1), (937, .ifCond .eq 5, 3), (940, .iconst 0, 1), (941, .ireturn, 1), (942, .goto 214, 3)]
theorem mt_L_least_ok : ∀ x ∈ mt_L_least, decode code x.1 = .ok (x.2.1, x.2.2) := by decide +kernel
theorem mL_least : mx_ok mY_La_law mf_La mt_L_least := ⟨mt_L_least_ok, mf_La_ok, fun w h => h⟩
set_option maxRecDepth 8000 in
theorem ls_least (hl : l.stackTraces = false) (i1 : vp_in (nI i + 1) Lx) (hA : mx_Ct l (pg_L (Lx, xs)) mY_La_least d 2 [.ref 0, .int (lwA xs i), .ref 60] M (mx_rI th M1)) (hB : mx_Ct l (pg_L (Lx, xs)) mY_Mo_least d 0 [.ref 41, .int (lwA xs i)] M1 (mx_rI b M2)) (ht : M2 41 0 = th) (hb : th = 0 → M2 60 0 = b) (kk : ∀ v5 v6 : Value, mx_E l (pg_L (Lx, xs)) mY_La_law (d + 1) n Q 1156 [.ref 1004, .ref 0, .ref 41, .ref 60, .int (nI i), v5, v6] [] M2) : ∀ v5 v6 : Value, mx_E l (pg_L (Lx, xs)) mY_La_law (d + 1) (n + 2) Q 889 [.ref 1004, .ref 0, .ref 41, .ref 60, .int (nI i), v5, v6] [] M := by
  intro v5 v6
  refine mx_cSW (n := n) (n0 := 3) (As := [.ref 0, .int (lwA xs i), .ref 60]) (rest := []) mL_least 7 rfl hA rfl ⟨i1, trivial⟩ rfl ks_La_128 kw_La_least rfl rfl rfl ?_
  refine mx_cVi (n0 := 1) (As := [.int (lwA xs i)]) (rest := []) mL_least 7 rfl hB rfl ⟨i1, trivial⟩ rfl rfl rfl kv_La_130 kd_Mo_least rfl rfl rfl ?_
  refine mx_cVi (n0 := 0) (As := []) (rest := []) mL_least 2 rfl (ct_Mo_thrown hl) rfl trivial rfl rfl rfl kv_La_84 kd_Mo_thrown rfl rfl rfl ?_
  refine mx_if mL_least 1 (t := 925) (f := 923) rfl trivial (fun _ => ?_) (fun q => absurd ht q)
  refine mx_if mL_least 1 (t := 942) (f := 930) rfl trivial (fun _ => ?_) (fun (q : th = 0) => ?_)
  · exact mx_go mL_least 1 rfl trivial (kk _ _)
  · refine mx_lald mL_least 2 rfl trivial rfl rfl vp01 ?_
    refine mx_i2l mL_least 1 rfl trivial rfl ?_
    refine mx_lcm mL_least 0 rfl trivial rfl ?_
    refine mx_if mL_least 0 (t := 942) (f := 940) rfl trivial (fun _ => ?_) (fun q2 => absurd ?_ q2)
    · exact mx_go mL_least 1 rfl trivial (kk _ _)
    · have e := hb q
      rw [← e]
      exact lg_same _
def mt_L_parity : mx_B := [(945, .aload_n 1, 1), (946, .aload_n 0, 1), (947, .iload 4, 2), (949, .iconst 1, 1), (950, .iadd, 1), (951, .iaload, 1), (952, .aload_n 3, 1), (953, .invokestatic 131, 3), (956, .istore 5, 2), (958, .aload_n 2, 1), (959, .aload_n 0, 1), (960, .iload 4, 2), (962, .iconst 1, 1), (963, .iadd, 1), (964, .iaload, 1), (965, .invokevirtual 133, 3), (968, .istore 6, 2), (970, .aload_n 2, 1), (971, .invokevirtual 84, 3), (974, .iload 5, 2), (976, .if_icmp .eq 5, 3), (979, .iconst 0, 1), (980, .ireturn, 1), (981, .iload 5, 2), (983, .ifCond .ne 15, 3), (986, .aload_n 3, 1), (987, .iconst 0, 1), (988, .laload, 1), (989, .iload 6, 2), (991, .i2l, 1), (992, .lcmp, 1), (993, .ifCond .eq 5, 3), (996, .iconst 0, 1), (997, .ireturn, 1), (998, .goto 158, 3)]
theorem mt_L_parity_ok : ∀ x ∈ mt_L_parity, decode code x.1 = .ok (x.2.1, x.2.2) := by decide +kernel
theorem mL_parity : mx_ok mY_La_law mf_La mt_L_parity := ⟨mt_L_parity_ok, mf_La_ok, fun w h => h⟩
set_option maxRecDepth 8000 in
theorem ls_parity (hl : l.stackTraces = false) (i1 : vp_in (nI i + 1) Lx) (hA : mx_Ct l (pg_L (Lx, xs)) mY_La_parity d 1 [.ref 0, .int (lwA xs i), .ref 60] M (mx_rI th M1)) (hB : mx_Ct l (pg_L (Lx, xs)) mY_Mo_parity d 0 [.ref 41, .int (lwA xs i)] M1 (mx_rI b M2)) (ht : M2 41 0 = th) (hb : th = 0 → M2 60 0 = b) (kk : ∀ v5 v6 : Value, mx_E l (pg_L (Lx, xs)) mY_La_law (d + 1) n Q 1156 [.ref 1004, .ref 0, .ref 41, .ref 60, .int (nI i), v5, v6] [] M2) : ∀ v5 v6 : Value, mx_E l (pg_L (Lx, xs)) mY_La_law (d + 1) (n + 1) Q 945 [.ref 1004, .ref 0, .ref 41, .ref 60, .int (nI i), v5, v6] [] M := by
  intro v5 v6
  refine mx_cSW (n := n) (n0 := 3) (As := [.ref 0, .int (lwA xs i), .ref 60]) (rest := []) mL_parity 7 rfl hA rfl ⟨i1, trivial⟩ rfl ks_La_131 kw_La_parity rfl rfl rfl ?_
  refine mx_cVi (n0 := 1) (As := [.int (lwA xs i)]) (rest := []) mL_parity 7 rfl hB rfl ⟨i1, trivial⟩ rfl rfl rfl kv_La_133 kd_Mo_parity rfl rfl rfl ?_
  refine mx_cVi (n0 := 0) (As := []) (rest := []) mL_parity 2 rfl (ct_Mo_thrown hl) rfl trivial rfl rfl rfl kv_La_84 kd_Mo_thrown rfl rfl rfl ?_
  refine mx_if mL_parity 1 (t := 981) (f := 979) rfl trivial (fun _ => ?_) (fun q => absurd ht q)
  refine mx_if mL_parity 1 (t := 998) (f := 986) rfl trivial (fun _ => ?_) (fun (q : th = 0) => ?_)
  · exact mx_go mL_parity 1 rfl trivial (kk _ _)
  · refine mx_lald mL_parity 2 rfl trivial rfl rfl vp01 ?_
    refine mx_i2l mL_parity 1 rfl trivial rfl ?_
    refine mx_lcm mL_parity 0 rfl trivial rfl ?_
    refine mx_if mL_parity 0 (t := 998) (f := 996) rfl trivial (fun _ => ?_) (fun q2 => absurd ?_ q2)
    · exact mx_go mL_parity 1 rfl trivial (kk _ _)
    · have e := hb q
      rw [← e]
      exact lg_same _
def mt_L_weight : mx_B := [(1001, .aload_n 1, 1), (1002, .aload_n 0, 1), (1003, .iload 4, 2), (1005, .iconst 1, 1), (1006, .iadd, 1), (1007, .iaload, 1), (1008, .aload_n 0, 1), (1009, .iload 4, 2), (1011, .iconst 2, 1), (1012, .iadd, 1), (1013, .iaload, 1), (1014, .invokestatic 134, 3), (1017, .istore 5, 2), (1019, .aload_n 2, 1), (1020, .aload_n 0, 1), (1021, .iload 4, 2), (1023, .iconst 1, 1), (1024, .iadd, 1), (1025, .iaload, 1), (1026, .aload_n 0, 1), (1027, .iload 4, 2), (1029, .iconst 2, 1), (1030, .iadd, 1), (1031, .iaload, 1), (1032, .invokevirtual 137, 3), (1035, .aload_n 2, 1), (1036, .invokevirtual 84, 3), (1039, .iload 5, 2), (1041, .if_icmp .eq 5, 3), (1044, .iconst 0, 1), (1045, .ireturn, 1), (1046, .goto 110, 3)]
theorem mt_L_weight_ok : ∀ x ∈ mt_L_weight, decode code x.1 = .ok (x.2.1, x.2.2) := by decide +kernel
theorem mL_weight : mx_ok mY_La_law mf_La mt_L_weight := ⟨mt_L_weight_ok, mf_La_ok, fun w h => h⟩
set_option maxRecDepth 8000 in
theorem ls_weight (hl : l.stackTraces = false) (i1 : vp_in (nI i + 1) Lx) (i2 : vp_in (nI i + 2) Lx) (hA : mx_Ct l (pg_L (Lx, xs)) mY_La_weight d 2 [.ref 0, .int (lwA xs i), .int (lwB xs i)] M (mx_rI th M1)) (hB : mx_Ct l (pg_L (Lx, xs)) mY_Mo_weight d 0 [.ref 41, .int (lwA xs i), .int (lwB xs i)] M1 (mx_rV M2)) (ht : M2 41 0 = th) (kk : ∀ v5 v6 : Value, mx_E l (pg_L (Lx, xs)) mY_La_law (d + 1) n Q 1156 [.ref 1004, .ref 0, .ref 41, .ref 60, .int (nI i), v5, v6] [] M2) : ∀ v5 v6 : Value, mx_E l (pg_L (Lx, xs)) mY_La_law (d + 1) (n + 2) Q 1001 [.ref 1004, .ref 0, .ref 41, .ref 60, .int (nI i), v5, v6] [] M := by
  intro v5 v6
  refine mx_cSW (n := n) (n0 := 3) (As := [.ref 0, .int (lwA xs i), .int (lwB xs i)]) (rest := []) mL_weight 11 rfl hA rfl ⟨i1, i2, trivial⟩ rfl ks_La_134 kw_La_weight rfl rfl rfl ?_
  refine mx_cVv (n0 := 2) (As := [.int (lwA xs i), .int (lwB xs i)]) (rest := []) mL_weight 12 rfl hB rfl ⟨i1, i2, trivial⟩ rfl rfl rfl kv_La_137 kd_Mo_weight rfl rfl rfl ?_
  refine mx_cVi (n0 := 0) (As := []) (rest := []) mL_weight 1 rfl (ct_Mo_thrown hl) rfl trivial rfl rfl rfl kv_La_84 kd_Mo_thrown rfl rfl rfl ?_
  refine mx_if mL_weight 1 (t := 1046) (f := 1044) rfl trivial (fun _ => ?_) (fun q => absurd ht q)
  exact mx_go mL_weight 1 rfl trivial (kk _ _)
def mt_L_weights : mx_B := [(1049, .aload_n 1, 1), (1050, .aload_n 0, 1), (1051, .iload 4, 2), (1053, .iconst 1, 1), (1054, .iadd, 1), (1055, .iaload, 1), (1056, .aload_n 3, 1), (1057, .invokestatic 138, 3), (1060, .istore 5, 2), (1062, .aload_n 2, 1), (1063, .aload_n 0, 1), (1064, .iload 4, 2), (1066, .iconst 1, 1), (1067, .iadd, 1), (1068, .iaload, 1), (1069, .invokevirtual 140, 3), (1072, .istore 6, 2), (1074, .aload_n 2, 1), (1075, .invokevirtual 84, 3), (1078, .iload 5, 2), (1080, .if_icmp .eq 5, 3), (1083, .iconst 0, 1), (1084, .ireturn, 1), (1085, .iload 5, 2), (1087, .ifCond .ne 15, 3), (1090, .aload_n 3, 1), (1091, .iconst 0, 1), (1092, .laload, 1), (1093, .iload 6, 2), (1095, .i2l, 1), (1096, .lcmp, 1), (1097, .ifCond .eq 5, 3), (1100, .iconst 0, 1), (1101, .ireturn, 1), (1102, .goto 54, 3)]
theorem mt_L_weights_ok : ∀ x ∈ mt_L_weights, decode code x.1 = .ok (x.2.1, x.2.2) := by decide +kernel
theorem mL_weights : mx_ok mY_La_law mf_La mt_L_weights := ⟨mt_L_weights_ok, mf_La_ok, fun w h => h⟩
set_option maxRecDepth 8000 in
theorem ls_weights (hl : l.stackTraces = false) (i1 : vp_in (nI i + 1) Lx) (hA : mx_Ct l (pg_L (Lx, xs)) mY_La_weights d 2 [.ref 0, .int (lwA xs i), .ref 60] M (mx_rI th M1)) (hB : mx_Ct l (pg_L (Lx, xs)) mY_Mo_weights d 0 [.ref 41, .int (lwA xs i)] M1 (mx_rI b M2)) (ht : M2 41 0 = th) (hb : th = 0 → M2 60 0 = b) (kk : ∀ v5 v6 : Value, mx_E l (pg_L (Lx, xs)) mY_La_law (d + 1) n Q 1156 [.ref 1004, .ref 0, .ref 41, .ref 60, .int (nI i), v5, v6] [] M2) : ∀ v5 v6 : Value, mx_E l (pg_L (Lx, xs)) mY_La_law (d + 1) (n + 2) Q 1049 [.ref 1004, .ref 0, .ref 41, .ref 60, .int (nI i), v5, v6] [] M := by
  intro v5 v6
  refine mx_cSW (n := n) (n0 := 3) (As := [.ref 0, .int (lwA xs i), .ref 60]) (rest := []) mL_weights 7 rfl hA rfl ⟨i1, trivial⟩ rfl ks_La_138 kw_La_weights rfl rfl rfl ?_
  refine mx_cVi (n0 := 1) (As := [.int (lwA xs i)]) (rest := []) mL_weights 7 rfl hB rfl ⟨i1, trivial⟩ rfl rfl rfl kv_La_140 kd_Mo_weights rfl rfl rfl ?_
  refine mx_cVi (n0 := 0) (As := []) (rest := []) mL_weights 2 rfl (ct_Mo_thrown hl) rfl trivial rfl rfl rfl kv_La_84 kd_Mo_thrown rfl rfl rfl ?_
  refine mx_if mL_weights 1 (t := 1085) (f := 1083) rfl trivial (fun _ => ?_) (fun q => absurd ht q)
  refine mx_if mL_weights 1 (t := 1102) (f := 1090) rfl trivial (fun _ => ?_) (fun (q : th = 0) => ?_)
  · exact mx_go mL_weights 1 rfl trivial (kk _ _)
  · refine mx_lald mL_weights 2 rfl trivial rfl rfl vp01 ?_
    refine mx_i2l mL_weights 1 rfl trivial rfl ?_
    refine mx_lcm mL_weights 0 rfl trivial rfl ?_
    refine mx_if mL_weights 0 (t := 1102) (f := 1100) rfl trivial (fun _ => ?_) (fun q2 => absurd ?_ q2)
    · exact mx_go mL_weights 1 rfl trivial (kk _ _)
    · have e := hb q
      rw [← e]
      exact lg_same _
def mt_L_find : mx_B := [(1105, .aload_n 1, 1), (1106, .aload_n 3, 1), (1107, .invokestatic 141, 3), (1110, .istore 5, 2), (1112, .aload_n 2, 1), (1113, .invokevirtual 143, 3), (1116, .istore 6, 2), (1118, .aload_n 2, 1), (1119, .invokevirtual 84, 3), (1122, .iload 5, 2), (1124, .if_icmp .eq 5, 3), (1127, .iconst 0, 1), (1128, .ireturn, 1), (1129, .iload 5, 2), (1131, .ifCond .ne 22, 3), (1134, .aload_n 3, 1), (1135, .iconst 0, 1), (1136, .laload, 1), (1137, .iload 6, 2), (1139, .ifCond .eq 7, 3), (1142, .lconst 1, 1), (1143, .goto 4, 3), (1146, .lconst 0, 1), (1147, .lcmp, 1), (1148, .ifCond .eq 5, 3), (1151, .iconst 0, 1), (1152, .ireturn, 1), (1153, .goto 3, 3)]
theorem mt_L_find_ok : ∀ x ∈ mt_L_find, decode code x.1 = .ok (x.2.1, x.2.2) := by decide +kernel
theorem mL_find : mx_ok mY_La_law mf_La mt_L_find := ⟨mt_L_find_ok, mf_La_ok, fun w h => h⟩
set_option maxRecDepth 8000 in
theorem ls_find (hl : l.stackTraces = false) (hA : mx_Ct l (pg_L (Lx, xs)) mY_La_find d 2 [.ref 0, .ref 60] M (mx_rI th M1)) (hB : mx_Ct l (pg_L (Lx, xs)) mY_Mo_find d 0 [.ref 41] M1 (mx_rI b M2)) (hz : b = 0 ∨ b = 1) (ht : M2 41 0 = th) (hb : th = 0 → M2 60 0 = b) (kk : ∀ v5 v6 : Value, mx_E l (pg_L (Lx, xs)) mY_La_law (d + 1) n Q 1156 [.ref 1004, .ref 0, .ref 41, .ref 60, .int (nI i), v5, v6] [] M2) : ∀ v5 v6 : Value, mx_E l (pg_L (Lx, xs)) mY_La_law (d + 1) (n + 2) Q 1105 [.ref 1004, .ref 0, .ref 41, .ref 60, .int (nI i), v5, v6] [] M := by
  intro v5 v6
  refine mx_cSW (n := n) (n0 := 2) (As := [.ref 0, .ref 60]) (rest := []) mL_find 2 rfl hA rfl trivial rfl ks_La_141 kw_La_find rfl rfl rfl ?_
  refine mx_cVi (n0 := 0) (As := []) (rest := []) mL_find 2 rfl hB rfl trivial rfl rfl rfl kv_La_143 kd_Mo_find rfl rfl rfl ?_
  refine mx_cVi (n0 := 0) (As := []) (rest := []) mL_find 2 rfl (ct_Mo_thrown hl) rfl trivial rfl rfl rfl kv_La_84 kd_Mo_thrown rfl rfl rfl ?_
  refine mx_if mL_find 1 (t := 1129) (f := 1127) rfl trivial (fun _ => ?_) (fun q => absurd ht q)
  refine mx_if mL_find 1 (t := 1153) (f := 1134) rfl trivial (fun _ => ?_) (fun (q : th = 0) => ?_)
  · exact mx_go mL_find 1 rfl trivial (kk _ _)
  · have e := hb q
    refine mx_lald mL_find 2 rfl trivial rfl rfl vp01 ?_
    refine mx_if mL_find 1 (t := 1146) (f := 1142) rfl trivial (fun (q3 : b = 0) => ?_) (fun (q3 : ¬ b = 0) => ?_)
    · refine mx_lcn mL_find 0 rfl trivial rfl rfl ?_
      refine mx_lcm mL_find 0 rfl trivial rfl ?_
      refine mx_if mL_find 0 (t := 1153) (f := 1151) rfl trivial (fun _ => ?_) (fun q2 => absurd ?_ q2)
      · exact mx_go mL_find 1 rfl trivial (kk _ _)
      · rw [show M2 60 (Int32.ofInt 0).toNatClampNeg = 0 from e.trans q3]
        decide
    · have q4 : b = 1 := hz.resolve_left q3
      refine mx_lcn mL_find 0 rfl trivial rfl rfl ?_
      refine mx_lcm mL_find 1 rfl trivial rfl ?_
      refine mx_if mL_find 0 (t := 1153) (f := 1151) rfl trivial (fun _ => ?_) (fun q2 => absurd ?_ q2)
      · exact mx_go mL_find 1 rfl trivial (kk _ _)
      · rw [show M2 60 (Int32.ofInt 0).toNatClampNeg = 1 from e.trans q4]
        decide
def mt_L_head : mx_B := [(20, .iconst 0, 1), (21, .istore 4, 2), (23, .iload 4, 2), (25, .aload_n 0, 1), (26, .arraylength, 1), (27, .iconst 3, 1), (28, .isub, 1), (29, .if_icmp .gt 1133, 3), (32, .aload_n 0, 1), (33, .iload 4, 2), (35, .iaload, 1), (36, .bipush 31, 2), (38, .iand, 1), (39, .tableswitch 1117 0 18 #[89, 128, 196, 240, 277, 345, 409, 477, 533, 589, 657, 713, 769, 782, 850, 906, 962, 1010, 1066], 89), (1156, .iinc 4 3, 3), (1159, .goto (-1136), 3), (1162, .iconst 1, 1), (1163, .ireturn, 1)]
theorem mt_L_head_ok : ∀ x ∈ mt_L_head, decode code x.1 = .ok (x.2.1, x.2.2) := by decide +kernel
theorem mL_head : mx_ok mY_La_law mf_La mt_L_head := ⟨mt_L_head_ok, mf_La_ok, fun w h => h⟩
end LS
