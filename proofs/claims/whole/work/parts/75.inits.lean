/-! Printed by wip/whole/gen_init.py: the constructors. -/
section CI
set_option maxRecDepth 20000
theorem wa_int : Cond.arrayClass .int ∈ mx_WS := mx_in 95 (by decide +kernel) rfl
theorem wa_bool : Cond.arrayClass .boolean ∈ mx_WS := mx_in 866 (by decide +kernel) rfl
theorem wa_long : Cond.arrayClass .long ∈ mx_WS := mx_in 1037 (by decide +kernel) rfl
theorem wo_i : Cond.instanceMethod Lib.objectInit ∈ mx_WS := mx_in 65 (by decide +kernel) rfl
theorem wo_c : Cond.code Lib.objectInit ⟨#[0xb1]⟩ 1 none ∈ mx_WS := mx_in 66 (by decide +kernel) rfl
theorem vle {a b : Nat} (h : Nat.ble a b = true) : a ≤ b := Nat.le_of_ble_eq_true h
def mt_Fo_init : mx_B := [(0, .aload_n 0, 1), (1, .invokespecial 3, 3), (4, .aload_n 0, 1), (5, .sipush 500, 3), (8, .newarray .int, 2), (10, .putfield 9, 3), (13, .aload_n 0, 1), (14, .sipush 1024, 3), (17, .newarray .int, 2), (19, .putfield 15, 3), (22, .return_, 1)]
theorem mt_Fo_init_ok : ∀ x ∈ mt_Fo_init, decode prog_3_method_1_code x.1 = .ok (x.2.1, x.2.2) := by decide +kernel
abbrev mY_Fo_init : mx_Y := (⟨"PegBoards$Found", "<init>", "()V"⟩, prog_3_method_1_code, 1, none, "PegBoards$Found", [], Cond.code ⟨"PegBoards$Found", "<init>", "()V"⟩ prog_3_method_1_code 1 none :: mx_WS)
theorem mo_Fo_init : mx_ok mY_Fo_init mf_Fo mt_Fo_init := ⟨mt_Fo_init_ok, mf_Fo_ok, fun w h => List.mem_cons_of_mem _ h⟩
theorem wz_Fo_init : Cond.instanceMethod ⟨"PegBoards$Found", "<init>", "()V"⟩ ∈ mx_WS := mx_in 154 (by decide +kernel) rfl
theorem wc_Fo_init : Cond.code ⟨"PegBoards$Found", "<init>", "()V"⟩ prog_3_method_1_code 1 none ∈ mx_WS := mx_in 155 (by decide +kernel) rfl
theorem wy_Fo : Cond.initialized "PegBoards$Found" ∈ mx_WS := mx_in 47 (by decide +kernel) rfl
theorem kd_Fo_init : mx_cdb mY_Fo_init 0 = true := by
  simp only [mx_cdb, Bool.and_eq_true, decide_eq_true_eq]
  exact ⟨⟨⟨⟨⟨wy_Fo, wc_Fo_init⟩, by decide +kernel⟩, by decide +kernel⟩, by decide +kernel⟩, by decide +kernel⟩
theorem wx_Fo : Cond.instantiable "PegBoards$Found" 3 ∈ mx_WS := mx_in 152 (by decide +kernel) rfl
theorem wu_Fo : ∀ w ∈ u_ws "PegBoards$Found" fT_Fo 3, w ∈ mx_WS := by
  obtain ⟨C, T0, N, q1, -, -, -, q5, -⟩ := mx_fo_s (List.all_eq_true.mp mf_Fo_ok _ (List.mem_cons_self))
  cases q1
  exact q5
theorem wf_Fo : ∀ j, j < 3 → (parseFieldDescriptor (fT_Fo j).2.2.1).map defaultValue = some (vp_V [.null, .null, .int 0] j) := by decide +kernel
theorem wj_Fo : Cond.methodLink "PegBoards$Found" 3 Lib.objectInit ∈ mx_WS := mx_in 156 (by decide +kernel) rfl
def co_Fo (T : mx_T) (h : Nat) (r : List Nat) : va_W := [(h, .inr (1, [.ref (r.getD 0 0), .ref (r.getD 1 0), .int 0])), ((r.getD 0 0), .inl (T.1, 500, .inl (fun _ => 0))), ((r.getD 1 0), .inl (T.1, 1024, .inl (fun _ => 0)))]
set_option maxHeartbeats 4000000 in
theorem ci_Fo {l : Launch} (hl : l.stackTraces = false) : cn_Ct l mY_Fo_init 0 1 [.null, .null, .int 0] 2 1524 2 co_Fo := by
  refine cn_of ⟨by decide +kernel, rfl, rfl, rfl, rfl⟩ rfl ?_
  intro p e s m args below meth c D T adS A h0 la hA hC hin hr hlk hsz hla hexc
  refine cn_ald mo_Fo_init hC hla rfl ?_
  refine cn_obj mo_Fo_init hC rfl wj_Fo wo_i wo_c hsz (vle rfl) (vle rfl) ?_
  refine cn_ald mo_Fo_init hC hla rfl ?_
  refine cn_sip (n := nI 500) mo_Fo_init hC (by decide) rfl ?_
  refine cn_newi (N := 500) mo_Fo_init hC rfl wa_int rfl (vle rfl) (vle rfl) (vle rfl) (fun q1 => ?_)
  refine cn_putF (q0 := 0) (k := 0) (ci := 1) (ty := .array .int) mo_Fo_init hC hin rfl rfl rfl rfl rfl rfl (by decide +kernel) rfl rfl (vle rfl) ?_
  refine cn_eq (ws' := [(h0, .inr (1, [.ref q1, .null, .int 0])), (q1, .inl (T.1, 500, .inl (fun _ => 0)))]) (pc' := 13) (cells' := 1) (slots' := 500) rfl rfl rfl rfl ?_
  refine cn_ald mo_Fo_init hC hla rfl ?_
  refine cn_sip (n := nI 1024) mo_Fo_init hC (by decide) rfl ?_
  refine cn_newi (N := 1024) mo_Fo_init hC rfl wa_int rfl (vle rfl) (vle rfl) (vle rfl) (fun q2 => ?_)
  refine cn_putF (q0 := 0) (k := 1) (ci := 1) (ty := .array .int) mo_Fo_init hC hin rfl rfl rfl rfl rfl rfl (by decide +kernel) rfl rfl (vle rfl) ?_
  refine cn_eq (ws' := [(h0, .inr (1, [.ref q1, .ref q2, .int 0])), (q1, .inl (T.1, 500, .inl (fun _ => 0))), (q2, .inl (T.1, 1024, .inl (fun _ => 0)))]) (pc' := 22) (cells' := 2) (slots' := 1524) rfl rfl rfl rfl ?_
  exact cn_ret mo_Fo_init hA hC hr hlk rfl [q1, q2] rfl [0, 1, 2] rfl rfl (vle rfl) (vle rfl)
def mt_Ju_init : mx_B := [(0, .aload_n 0, 1), (1, .invokespecial 3, 3), (4, .aload_n 0, 1), (5, .bipush 120, 2), (7, .newarray .int, 2), (9, .putfield 9, 3), (12, .aload_n 0, 1), (13, .bipush 120, 2), (15, .newarray .int, 2), (17, .putfield 15, 3), (20, .aload_n 0, 1), (21, .bipush 120, 2), (23, .newarray .int, 2), (25, .putfield 18, 3), (28, .aload_n 0, 1), (29, .bipush 120, 2), (31, .newarray .int, 2), (33, .putfield 21, 3), (36, .aload_n 0, 1), (37, .bipush 120, 2), (39, .newarray .int, 2), (41, .putfield 24, 3), (44, .return_, 1)]
theorem mt_Ju_init_ok : ∀ x ∈ mt_Ju_init, decode prog_4_method_1_code x.1 = .ok (x.2.1, x.2.2) := by decide +kernel
abbrev mY_Ju_init : mx_Y := (⟨"PegBoards$Jumps", "<init>", "()V"⟩, prog_4_method_1_code, 1, none, "PegBoards$Jumps", [], Cond.code ⟨"PegBoards$Jumps", "<init>", "()V"⟩ prog_4_method_1_code 1 none :: mx_WS)
theorem mo_Ju_init : mx_ok mY_Ju_init mf_Ju mt_Ju_init := ⟨mt_Ju_init_ok, mf_Ju_ok, fun w h => List.mem_cons_of_mem _ h⟩
theorem wz_Ju_init : Cond.instanceMethod ⟨"PegBoards$Jumps", "<init>", "()V"⟩ ∈ mx_WS := mx_in 99 (by decide +kernel) rfl
theorem wc_Ju_init : Cond.code ⟨"PegBoards$Jumps", "<init>", "()V"⟩ prog_4_method_1_code 1 none ∈ mx_WS := mx_in 100 (by decide +kernel) rfl
theorem wy_Ju : Cond.initialized "PegBoards$Jumps" ∈ mx_WS := mx_in 44 (by decide +kernel) rfl
theorem kd_Ju_init : mx_cdb mY_Ju_init 0 = true := by
  simp only [mx_cdb, Bool.and_eq_true, decide_eq_true_eq]
  exact ⟨⟨⟨⟨⟨wy_Ju, wc_Ju_init⟩, by decide +kernel⟩, by decide +kernel⟩, by decide +kernel⟩, by decide +kernel⟩
theorem wx_Ju : Cond.instantiable "PegBoards$Jumps" 6 ∈ mx_WS := mx_in 97 (by decide +kernel) rfl
theorem wu_Ju : ∀ w ∈ u_ws "PegBoards$Jumps" fT_Ju 6, w ∈ mx_WS := by
  obtain ⟨C, T0, N, q1, -, -, -, q5, -⟩ := mx_fo_s (List.all_eq_true.mp mf_Ju_ok _ (List.mem_cons_self))
  cases q1
  exact q5
theorem wf_Ju : ∀ j, j < 6 → (parseFieldDescriptor (fT_Ju j).2.2.1).map defaultValue = some (vp_V [.null, .null, .null, .null, .null, .int 0] j) := by decide +kernel
theorem wj_Ju : Cond.methodLink "PegBoards$Jumps" 3 Lib.objectInit ∈ mx_WS := mx_in 101 (by decide +kernel) rfl
def co_Ju (T : mx_T) (h : Nat) (r : List Nat) : va_W := [(h, .inr (2, [.ref (r.getD 0 0), .ref (r.getD 1 0), .ref (r.getD 2 0), .ref (r.getD 3 0), .ref (r.getD 4 0), .int 0])), ((r.getD 0 0), .inl (T.1, 120, .inl (fun _ => 0))), ((r.getD 1 0), .inl (T.1, 120, .inl (fun _ => 0))), ((r.getD 2 0), .inl (T.1, 120, .inl (fun _ => 0))), ((r.getD 3 0), .inl (T.1, 120, .inl (fun _ => 0))), ((r.getD 4 0), .inl (T.1, 120, .inl (fun _ => 0)))]
set_option maxHeartbeats 4000000 in
theorem ci_Ju {l : Launch} (hl : l.stackTraces = false) : cn_Ct l mY_Ju_init 0 2 [.null, .null, .null, .null, .null, .int 0] 5 600 5 co_Ju := by
  refine cn_of ⟨by decide +kernel, rfl, rfl, rfl, rfl⟩ rfl ?_
  intro p e s m args below meth c D T adS A h0 la hA hC hin hr hlk hsz hla hexc
  refine cn_ald mo_Ju_init hC hla rfl ?_
  refine cn_obj mo_Ju_init hC rfl wj_Ju wo_i wo_c hsz (vle rfl) (vle rfl) ?_
  refine cn_ald mo_Ju_init hC hla rfl ?_
  refine cn_bip (n := nI 120) mo_Ju_init hC (by decide) rfl ?_
  refine cn_newi (N := 120) mo_Ju_init hC rfl wa_int rfl (vle rfl) (vle rfl) (vle rfl) (fun q1 => ?_)
  refine cn_putF (q0 := 0) (k := 0) (ci := 2) (ty := .array .int) mo_Ju_init hC hin rfl rfl rfl rfl rfl rfl (by decide +kernel) rfl rfl (vle rfl) ?_
  refine cn_eq (ws' := [(h0, .inr (2, [.ref q1, .null, .null, .null, .null, .int 0])), (q1, .inl (T.1, 120, .inl (fun _ => 0)))]) (pc' := 12) (cells' := 1) (slots' := 120) rfl rfl rfl rfl ?_
  refine cn_ald mo_Ju_init hC hla rfl ?_
  refine cn_bip (n := nI 120) mo_Ju_init hC (by decide) rfl ?_
  refine cn_newi (N := 120) mo_Ju_init hC rfl wa_int rfl (vle rfl) (vle rfl) (vle rfl) (fun q2 => ?_)
  refine cn_putF (q0 := 0) (k := 1) (ci := 2) (ty := .array .int) mo_Ju_init hC hin rfl rfl rfl rfl rfl rfl (by decide +kernel) rfl rfl (vle rfl) ?_
  refine cn_eq (ws' := [(h0, .inr (2, [.ref q1, .ref q2, .null, .null, .null, .int 0])), (q1, .inl (T.1, 120, .inl (fun _ => 0))), (q2, .inl (T.1, 120, .inl (fun _ => 0)))]) (pc' := 20) (cells' := 2) (slots' := 240) rfl rfl rfl rfl ?_
  refine cn_ald mo_Ju_init hC hla rfl ?_
  refine cn_bip (n := nI 120) mo_Ju_init hC (by decide) rfl ?_
  refine cn_newi (N := 120) mo_Ju_init hC rfl wa_int rfl (vle rfl) (vle rfl) (vle rfl) (fun q3 => ?_)
  refine cn_putF (q0 := 0) (k := 2) (ci := 2) (ty := .array .int) mo_Ju_init hC hin rfl rfl rfl rfl rfl rfl (by decide +kernel) rfl rfl (vle rfl) ?_
  refine cn_eq (ws' := [(h0, .inr (2, [.ref q1, .ref q2, .ref q3, .null, .null, .int 0])), (q1, .inl (T.1, 120, .inl (fun _ => 0))), (q2, .inl (T.1, 120, .inl (fun _ => 0))), (q3, .inl (T.1, 120, .inl (fun _ => 0)))]) (pc' := 28) (cells' := 3) (slots' := 360) rfl rfl rfl rfl ?_
  refine cn_ald mo_Ju_init hC hla rfl ?_
  refine cn_bip (n := nI 120) mo_Ju_init hC (by decide) rfl ?_
  refine cn_newi (N := 120) mo_Ju_init hC rfl wa_int rfl (vle rfl) (vle rfl) (vle rfl) (fun q4 => ?_)
  refine cn_putF (q0 := 0) (k := 3) (ci := 2) (ty := .array .int) mo_Ju_init hC hin rfl rfl rfl rfl rfl rfl (by decide +kernel) rfl rfl (vle rfl) ?_
  refine cn_eq (ws' := [(h0, .inr (2, [.ref q1, .ref q2, .ref q3, .ref q4, .null, .int 0])), (q1, .inl (T.1, 120, .inl (fun _ => 0))), (q2, .inl (T.1, 120, .inl (fun _ => 0))), (q3, .inl (T.1, 120, .inl (fun _ => 0))), (q4, .inl (T.1, 120, .inl (fun _ => 0)))]) (pc' := 36) (cells' := 4) (slots' := 480) rfl rfl rfl rfl ?_
  refine cn_ald mo_Ju_init hC hla rfl ?_
  refine cn_bip (n := nI 120) mo_Ju_init hC (by decide) rfl ?_
  refine cn_newi (N := 120) mo_Ju_init hC rfl wa_int rfl (vle rfl) (vle rfl) (vle rfl) (fun q5 => ?_)
  refine cn_putF (q0 := 0) (k := 4) (ci := 2) (ty := .array .int) mo_Ju_init hC hin rfl rfl rfl rfl rfl rfl (by decide +kernel) rfl rfl (vle rfl) ?_
  refine cn_eq (ws' := [(h0, .inr (2, [.ref q1, .ref q2, .ref q3, .ref q4, .ref q5, .int 0])), (q1, .inl (T.1, 120, .inl (fun _ => 0))), (q2, .inl (T.1, 120, .inl (fun _ => 0))), (q3, .inl (T.1, 120, .inl (fun _ => 0))), (q4, .inl (T.1, 120, .inl (fun _ => 0))), (q5, .inl (T.1, 120, .inl (fun _ => 0)))]) (pc' := 44) (cells' := 5) (slots' := 600) rfl rfl rfl rfl ?_
  exact cn_ret mo_Ju_init hA hC hr hlk rfl [q1, q2, q3, q4, q5] rfl [0, 1, 2, 3, 4, 5] rfl rfl (vle rfl) (vle rfl)
def mt_We_init : mx_B := [(0, .aload_n 0, 1), (1, .invokespecial 3, 3), (4, .aload_n 0, 1), (5, .bipush 20, 2), (7, .newarray .int, 2), (9, .putfield 9, 3), (12, .aload_n 0, 1), (13, .bipush 8, 2), (15, .newarray .int, 2), (17, .putfield 15, 3), (20, .return_, 1)]
theorem mt_We_init_ok : ∀ x ∈ mt_We_init, decode prog_7_method_1_code x.1 = .ok (x.2.1, x.2.2) := by decide +kernel
abbrev mY_We_init : mx_Y := (⟨"PegBoards$Weights", "<init>", "()V"⟩, prog_7_method_1_code, 1, none, "PegBoards$Weights", [], Cond.code ⟨"PegBoards$Weights", "<init>", "()V"⟩ prog_7_method_1_code 1 none :: mx_WS)
theorem mo_We_init : mx_ok mY_We_init mf_We mt_We_init := ⟨mt_We_init_ok, mf_We_ok, fun w h => List.mem_cons_of_mem _ h⟩
theorem wz_We_init : Cond.instanceMethod ⟨"PegBoards$Weights", "<init>", "()V"⟩ ∈ mx_WS := mx_in 192 (by decide +kernel) rfl
theorem wc_We_init : Cond.code ⟨"PegBoards$Weights", "<init>", "()V"⟩ prog_7_method_1_code 1 none ∈ mx_WS := mx_in 193 (by decide +kernel) rfl
theorem wy_We : Cond.initialized "PegBoards$Weights" ∈ mx_WS := mx_in 48 (by decide +kernel) rfl
theorem kd_We_init : mx_cdb mY_We_init 0 = true := by
  simp only [mx_cdb, Bool.and_eq_true, decide_eq_true_eq]
  exact ⟨⟨⟨⟨⟨wy_We, wc_We_init⟩, by decide +kernel⟩, by decide +kernel⟩, by decide +kernel⟩, by decide +kernel⟩
theorem wx_We : Cond.instantiable "PegBoards$Weights" 2 ∈ mx_WS := mx_in 190 (by decide +kernel) rfl
theorem wu_We : ∀ w ∈ u_ws "PegBoards$Weights" fT_We 2, w ∈ mx_WS := by
  obtain ⟨C, T0, N, q1, -, -, -, q5, -⟩ := mx_fo_s (List.all_eq_true.mp mf_We_ok _ (List.mem_cons_self))
  cases q1
  exact q5
theorem wf_We : ∀ j, j < 2 → (parseFieldDescriptor (fT_We j).2.2.1).map defaultValue = some (vp_V [.null, .null] j) := by decide +kernel
theorem wj_We : Cond.methodLink "PegBoards$Weights" 3 Lib.objectInit ∈ mx_WS := mx_in 194 (by decide +kernel) rfl
def co_We (T : mx_T) (h : Nat) (r : List Nat) : va_W := [(h, .inr (5, [.ref (r.getD 0 0), .ref (r.getD 1 0)])), ((r.getD 0 0), .inl (T.1, 20, .inl (fun _ => 0))), ((r.getD 1 0), .inl (T.1, 8, .inl (fun _ => 0)))]
set_option maxHeartbeats 4000000 in
theorem ci_We {l : Launch} (hl : l.stackTraces = false) : cn_Ct l mY_We_init 0 5 [.null, .null] 2 28 2 co_We := by
  refine cn_of ⟨by decide +kernel, rfl, rfl, rfl, rfl⟩ rfl ?_
  intro p e s m args below meth c D T adS A h0 la hA hC hin hr hlk hsz hla hexc
  refine cn_ald mo_We_init hC hla rfl ?_
  refine cn_obj mo_We_init hC rfl wj_We wo_i wo_c hsz (vle rfl) (vle rfl) ?_
  refine cn_ald mo_We_init hC hla rfl ?_
  refine cn_bip (n := nI 20) mo_We_init hC (by decide) rfl ?_
  refine cn_newi (N := 20) mo_We_init hC rfl wa_int rfl (vle rfl) (vle rfl) (vle rfl) (fun q1 => ?_)
  refine cn_putF (q0 := 0) (k := 0) (ci := 5) (ty := .array .int) mo_We_init hC hin rfl rfl rfl rfl rfl rfl (by decide +kernel) rfl rfl (vle rfl) ?_
  refine cn_eq (ws' := [(h0, .inr (5, [.ref q1, .null])), (q1, .inl (T.1, 20, .inl (fun _ => 0)))]) (pc' := 12) (cells' := 1) (slots' := 20) rfl rfl rfl rfl ?_
  refine cn_ald mo_We_init hC hla rfl ?_
  refine cn_bip (n := nI 8) mo_We_init hC (by decide) rfl ?_
  refine cn_newi (N := 8) mo_We_init hC rfl wa_int rfl (vle rfl) (vle rfl) (vle rfl) (fun q2 => ?_)
  refine cn_putF (q0 := 0) (k := 1) (ci := 5) (ty := .array .int) mo_We_init hC hin rfl rfl rfl rfl rfl rfl (by decide +kernel) rfl rfl (vle rfl) ?_
  refine cn_eq (ws' := [(h0, .inr (5, [.ref q1, .ref q2])), (q1, .inl (T.1, 20, .inl (fun _ => 0))), (q2, .inl (T.1, 8, .inl (fun _ => 0)))]) (pc' := 20) (cells' := 2) (slots' := 28) rfl rfl rfl rfl ?_
  exact cn_ret mo_We_init hA hC hr hlk rfl [q1, q2] rfl [0, 1, 2] rfl rfl (vle rfl) (vle rfl)
def mt_Sy_init : mx_B := [(0, .aload_n 0, 1), (1, .invokespecial 3, 3), (4, .aload_n 0, 1), (5, .bipush 12, 2), (7, .bipush 20, 2), (9, .multianewarray 9 2, 4), (13, .putfield 11, 3), (16, .aload_n 0, 1), (17, .bipush 20, 2), (19, .newarray .int, 2), (21, .putfield 16, 3), (24, .aload_n 0, 1), (25, .bipush 20, 2), (27, .newarray .int, 2), (29, .putfield 20, 3), (32, .return_, 1)]
theorem mt_Sy_init_ok : ∀ x ∈ mt_Sy_init, decode prog_6_method_1_code x.1 = .ok (x.2.1, x.2.2) := by decide +kernel
abbrev mY_Sy_init : mx_Y := (⟨"PegBoards$Symmetries", "<init>", "()V"⟩, prog_6_method_1_code, 1, none, "PegBoards$Symmetries", [], Cond.code ⟨"PegBoards$Symmetries", "<init>", "()V"⟩ prog_6_method_1_code 1 none :: mx_WS)
theorem mo_Sy_init : mx_ok mY_Sy_init mf_Sy mt_Sy_init := ⟨mt_Sy_init_ok, mf_Sy_ok, fun w h => List.mem_cons_of_mem _ h⟩
theorem wz_Sy_init : Cond.instanceMethod ⟨"PegBoards$Symmetries", "<init>", "()V"⟩ ∈ mx_WS := mx_in 124 (by decide +kernel) rfl
theorem wc_Sy_init : Cond.code ⟨"PegBoards$Symmetries", "<init>", "()V"⟩ prog_6_method_1_code 1 none ∈ mx_WS := mx_in 125 (by decide +kernel) rfl
theorem wy_Sy : Cond.initialized "PegBoards$Symmetries" ∈ mx_WS := mx_in 45 (by decide +kernel) rfl
theorem kd_Sy_init : mx_cdb mY_Sy_init 0 = true := by
  simp only [mx_cdb, Bool.and_eq_true, decide_eq_true_eq]
  exact ⟨⟨⟨⟨⟨wy_Sy, wc_Sy_init⟩, by decide +kernel⟩, by decide +kernel⟩, by decide +kernel⟩, by decide +kernel⟩
theorem wx_Sy : Cond.instantiable "PegBoards$Symmetries" 5 ∈ mx_WS := mx_in 122 (by decide +kernel) rfl
theorem wu_Sy : ∀ w ∈ u_ws "PegBoards$Symmetries" fT_Sy 5, w ∈ mx_WS := by
  obtain ⟨C, T0, N, q1, -, -, -, q5, -⟩ := mx_fo_s (List.all_eq_true.mp mf_Sy_ok _ (List.mem_cons_self))
  cases q1
  exact q5
theorem wf_Sy : ∀ j, j < 5 → (parseFieldDescriptor (fT_Sy j).2.2.1).map defaultValue = some (vp_V [.null, .null, .null, .int 0, .int 0] j) := by decide +kernel
theorem wj_Sy : Cond.methodLink "PegBoards$Symmetries" 3 Lib.objectInit ∈ mx_WS := mx_in 126 (by decide +kernel) rfl
theorem wq_Sy : Cond.classLink "PegBoards$Symmetries" 9 ("[" ++ (FieldType.array .int).toString) ∈ mx_WS := mx_in 127 (by decide +kernel) rfl
def co_Sy (T : mx_T) (h : Nat) (r : List Nat) : va_W := [(h, .inr (4, [.ref (r.getD 0 0), .ref (r.getD 1 0), .ref (r.getD 2 0), .int 0, .int 0])), ((r.getD 0 0), .inl (T.2.1, 12, .inr (.inr (.inr (.inr (fun j => if j < 12 then some ((r.getD 0 0) + 1 + j) else none)))))), (((r.getD 0 0) + 1 + 0), .inl (T.1, 20, .inl (fun _ => 0))), (((r.getD 0 0) + 1 + 1), .inl (T.1, 20, .inl (fun _ => 0))), (((r.getD 0 0) + 1 + 2), .inl (T.1, 20, .inl (fun _ => 0))), (((r.getD 0 0) + 1 + 3), .inl (T.1, 20, .inl (fun _ => 0))), (((r.getD 0 0) + 1 + 4), .inl (T.1, 20, .inl (fun _ => 0))), (((r.getD 0 0) + 1 + 5), .inl (T.1, 20, .inl (fun _ => 0))), (((r.getD 0 0) + 1 + 6), .inl (T.1, 20, .inl (fun _ => 0))), (((r.getD 0 0) + 1 + 7), .inl (T.1, 20, .inl (fun _ => 0))), (((r.getD 0 0) + 1 + 8), .inl (T.1, 20, .inl (fun _ => 0))), (((r.getD 0 0) + 1 + 9), .inl (T.1, 20, .inl (fun _ => 0))), (((r.getD 0 0) + 1 + 10), .inl (T.1, 20, .inl (fun _ => 0))), (((r.getD 0 0) + 1 + 11), .inl (T.1, 20, .inl (fun _ => 0))), ((r.getD 1 0), .inl (T.1, 20, .inl (fun _ => 0))), ((r.getD 2 0), .inl (T.1, 20, .inl (fun _ => 0)))]
set_option maxHeartbeats 4000000 in
theorem ci_Sy {l : Launch} (hl : l.stackTraces = false) : cn_Ct l mY_Sy_init 0 4 [.null, .null, .null, .int 0, .int 0] 15 292 3 co_Sy := by
  refine cn_of ⟨by decide +kernel, rfl, rfl, rfl, rfl⟩ rfl ?_
  intro p e s m args below meth c D T adS A h0 la hA hC hin hr hlk hsz hla hexc
  refine cn_ald mo_Sy_init hC hla rfl ?_
  refine cn_obj mo_Sy_init hC rfl wj_Sy wo_i wo_c hsz (vle rfl) (vle rfl) ?_
  refine cn_ald mo_Sy_init hC hla rfl ?_
  refine cn_bip (n := nI 12) mo_Sy_init hC (by decide) rfl ?_
  refine cn_bip (n := nI 20) mo_Sy_init hC (by decide) rfl ?_
  refine cn_multi (N := 12) (K := 20) mo_Sy_init hC rfl wq_Sy wa_int rfl rfl (vle rfl) (vle rfl) (vle rfl) (vle rfl) (fun q1 => ?_)
  refine cn_putF (q0 := 0) (k := 0) (ci := 4) (ty := .array (.array .int)) mo_Sy_init hC hin rfl rfl rfl rfl rfl rfl (by decide +kernel) rfl rfl (vle rfl) ?_
  refine cn_eq (ws' := [(h0, .inr (4, [.ref q1, .null, .null, .int 0, .int 0])), (q1, .inl (T.2.1, 12, .inr (.inr (.inr (.inr (fun j => if j < 12 then some (q1 + 1 + j) else none)))))), ((q1 + 1 + 0), .inl (T.1, 20, .inl (fun _ => 0))), ((q1 + 1 + 1), .inl (T.1, 20, .inl (fun _ => 0))), ((q1 + 1 + 2), .inl (T.1, 20, .inl (fun _ => 0))), ((q1 + 1 + 3), .inl (T.1, 20, .inl (fun _ => 0))), ((q1 + 1 + 4), .inl (T.1, 20, .inl (fun _ => 0))), ((q1 + 1 + 5), .inl (T.1, 20, .inl (fun _ => 0))), ((q1 + 1 + 6), .inl (T.1, 20, .inl (fun _ => 0))), ((q1 + 1 + 7), .inl (T.1, 20, .inl (fun _ => 0))), ((q1 + 1 + 8), .inl (T.1, 20, .inl (fun _ => 0))), ((q1 + 1 + 9), .inl (T.1, 20, .inl (fun _ => 0))), ((q1 + 1 + 10), .inl (T.1, 20, .inl (fun _ => 0))), ((q1 + 1 + 11), .inl (T.1, 20, .inl (fun _ => 0)))]) (pc' := 16) (cells' := 13) (slots' := 252) rfl rfl rfl rfl ?_
  refine cn_ald mo_Sy_init hC hla rfl ?_
  refine cn_bip (n := nI 20) mo_Sy_init hC (by decide) rfl ?_
  refine cn_newi (N := 20) mo_Sy_init hC rfl wa_int rfl (vle rfl) (vle rfl) (vle rfl) (fun q2 => ?_)
  refine cn_putF (q0 := 0) (k := 1) (ci := 4) (ty := .array .int) mo_Sy_init hC hin rfl rfl rfl rfl rfl rfl (by decide +kernel) rfl rfl (vle rfl) ?_
  refine cn_eq (ws' := [(h0, .inr (4, [.ref q1, .ref q2, .null, .int 0, .int 0])), (q1, .inl (T.2.1, 12, .inr (.inr (.inr (.inr (fun j => if j < 12 then some (q1 + 1 + j) else none)))))), ((q1 + 1 + 0), .inl (T.1, 20, .inl (fun _ => 0))), ((q1 + 1 + 1), .inl (T.1, 20, .inl (fun _ => 0))), ((q1 + 1 + 2), .inl (T.1, 20, .inl (fun _ => 0))), ((q1 + 1 + 3), .inl (T.1, 20, .inl (fun _ => 0))), ((q1 + 1 + 4), .inl (T.1, 20, .inl (fun _ => 0))), ((q1 + 1 + 5), .inl (T.1, 20, .inl (fun _ => 0))), ((q1 + 1 + 6), .inl (T.1, 20, .inl (fun _ => 0))), ((q1 + 1 + 7), .inl (T.1, 20, .inl (fun _ => 0))), ((q1 + 1 + 8), .inl (T.1, 20, .inl (fun _ => 0))), ((q1 + 1 + 9), .inl (T.1, 20, .inl (fun _ => 0))), ((q1 + 1 + 10), .inl (T.1, 20, .inl (fun _ => 0))), ((q1 + 1 + 11), .inl (T.1, 20, .inl (fun _ => 0))), (q2, .inl (T.1, 20, .inl (fun _ => 0)))]) (pc' := 24) (cells' := 14) (slots' := 272) rfl rfl rfl rfl ?_
  refine cn_ald mo_Sy_init hC hla rfl ?_
  refine cn_bip (n := nI 20) mo_Sy_init hC (by decide) rfl ?_
  refine cn_newi (N := 20) mo_Sy_init hC rfl wa_int rfl (vle rfl) (vle rfl) (vle rfl) (fun q3 => ?_)
  refine cn_putF (q0 := 0) (k := 2) (ci := 4) (ty := .array .int) mo_Sy_init hC hin rfl rfl rfl rfl rfl rfl (by decide +kernel) rfl rfl (vle rfl) ?_
  refine cn_eq (ws' := [(h0, .inr (4, [.ref q1, .ref q2, .ref q3, .int 0, .int 0])), (q1, .inl (T.2.1, 12, .inr (.inr (.inr (.inr (fun j => if j < 12 then some (q1 + 1 + j) else none)))))), ((q1 + 1 + 0), .inl (T.1, 20, .inl (fun _ => 0))), ((q1 + 1 + 1), .inl (T.1, 20, .inl (fun _ => 0))), ((q1 + 1 + 2), .inl (T.1, 20, .inl (fun _ => 0))), ((q1 + 1 + 3), .inl (T.1, 20, .inl (fun _ => 0))), ((q1 + 1 + 4), .inl (T.1, 20, .inl (fun _ => 0))), ((q1 + 1 + 5), .inl (T.1, 20, .inl (fun _ => 0))), ((q1 + 1 + 6), .inl (T.1, 20, .inl (fun _ => 0))), ((q1 + 1 + 7), .inl (T.1, 20, .inl (fun _ => 0))), ((q1 + 1 + 8), .inl (T.1, 20, .inl (fun _ => 0))), ((q1 + 1 + 9), .inl (T.1, 20, .inl (fun _ => 0))), ((q1 + 1 + 10), .inl (T.1, 20, .inl (fun _ => 0))), ((q1 + 1 + 11), .inl (T.1, 20, .inl (fun _ => 0))), (q2, .inl (T.1, 20, .inl (fun _ => 0))), (q3, .inl (T.1, 20, .inl (fun _ => 0)))]) (pc' := 32) (cells' := 15) (slots' := 292) rfl rfl rfl rfl ?_
  exact cn_ret mo_Sy_init hA hC hr hlk rfl [q1, q2, q3] rfl [0, 1, 2, 3, 4, 5, 6, 7, 8, 9, 10, 11, 12, 13, 14, 15] rfl rfl (vle rfl) (vle rfl)
def mt_Bo_init : mx_B := [(0, .aload_n 0, 1), (1, .invokespecial 3, 3), (4, .aload_n 0, 1), (5, .bipush 64, 2), (7, .newarray .int, 2), (9, .putfield 9, 3), (12, .aload_n 0, 1), (13, .bipush 20, 2), (15, .newarray .int, 2), (17, .putfield 15, 3), (20, .aload_n 0, 1), (21, .bipush 20, 2), (23, .newarray .int, 2), (25, .putfield 18, 3), (28, .aload_n 0, 1), (29, .getfield 9, 3), (32, .iconst (-1), 1), (33, .invokestatic 21, 3), (36, .return_, 1)]
theorem mt_Bo_init_ok : ∀ x ∈ mt_Bo_init, decode prog_2_method_1_code x.1 = .ok (x.2.1, x.2.2) := by decide +kernel
abbrev mY_Bo_init : mx_Y := (⟨"PegBoards$Board", "<init>", "()V"⟩, prog_2_method_1_code, 1, none, "PegBoards$Board", [], Cond.code ⟨"PegBoards$Board", "<init>", "()V"⟩ prog_2_method_1_code 1 none :: mx_WS)
theorem mo_Bo_init : mx_ok mY_Bo_init mf_Bo mt_Bo_init := ⟨mt_Bo_init_ok, mf_Bo_ok, fun w h => List.mem_cons_of_mem _ h⟩
theorem wz_Bo_init : Cond.instanceMethod ⟨"PegBoards$Board", "<init>", "()V"⟩ ∈ mx_WS := mx_in 70 (by decide +kernel) rfl
theorem wc_Bo_init : Cond.code ⟨"PegBoards$Board", "<init>", "()V"⟩ prog_2_method_1_code 1 none ∈ mx_WS := mx_in 71 (by decide +kernel) rfl
theorem wy_Bo : Cond.initialized "PegBoards$Board" ∈ mx_WS := mx_in 42 (by decide +kernel) rfl
theorem kd_Bo_init : mx_cdb mY_Bo_init 0 = true := by
  simp only [mx_cdb, Bool.and_eq_true, decide_eq_true_eq]
  exact ⟨⟨⟨⟨⟨wy_Bo, wc_Bo_init⟩, by decide +kernel⟩, by decide +kernel⟩, by decide +kernel⟩, by decide +kernel⟩
theorem wx_Bo : Cond.instantiable "PegBoards$Board" 6 ∈ mx_WS := mx_in 68 (by decide +kernel) rfl
theorem wu_Bo : ∀ w ∈ u_ws "PegBoards$Board" fT_Bo 6, w ∈ mx_WS := by
  obtain ⟨C, T0, N, q1, -, -, -, q5, -⟩ := mx_fo_s (List.all_eq_true.mp mf_Bo_ok _ (List.mem_cons_self))
  cases q1
  exact q5
theorem wf_Bo : ∀ j, j < 6 → (parseFieldDescriptor (fT_Bo j).2.2.1).map defaultValue = some (vp_V [.null, .null, .null, .int 0, .int 0, .int 0] j) := by decide +kernel
theorem wj_Bo : Cond.methodLink "PegBoards$Board" 3 Lib.objectInit ∈ mx_WS := mx_in 72 (by decide +kernel) rfl
def co_Bo (T : mx_T) (h : Nat) (r : List Nat) : va_W := [(h, .inr (0, [.ref (r.getD 0 0), .ref (r.getD 1 0), .ref (r.getD 2 0), .int 0, .int 0, .int 0])), ((r.getD 1 0), .inl (T.1, 20, .inl (fun _ => 0))), ((r.getD 2 0), .inl (T.1, 20, .inl (fun _ => 0))), ((r.getD 0 0), .inl (T.1, 64, .inl (fun j => if j < 64 then -1 else 0)))]
set_option maxHeartbeats 4000000 in
theorem ci_Bo {l : Launch} (hl : l.stackTraces = false) : cn_Ct l mY_Bo_init 1 0 [.null, .null, .null, .int 0, .int 0, .int 0] 3 104 3 co_Bo := by
  refine cn_of ⟨by decide +kernel, rfl, rfl, rfl, rfl⟩ rfl ?_
  intro p e s m args below meth c D T adS A h0 la hA hC hin hr hlk hsz hla hexc
  refine cn_ald mo_Bo_init hC hla rfl ?_
  refine cn_obj mo_Bo_init hC rfl wj_Bo wo_i wo_c hsz (vle rfl) (vle rfl) ?_
  refine cn_ald mo_Bo_init hC hla rfl ?_
  refine cn_bip (n := nI 64) mo_Bo_init hC (by decide) rfl ?_
  refine cn_newi (N := 64) mo_Bo_init hC rfl wa_int rfl (vle rfl) (vle rfl) (vle rfl) (fun q1 => ?_)
  refine cn_putF (q0 := 0) (k := 0) (ci := 0) (ty := .array .int) mo_Bo_init hC hin rfl rfl rfl rfl rfl rfl (by decide +kernel) rfl rfl (vle rfl) ?_
  refine cn_eq (ws' := [(h0, .inr (0, [.ref q1, .null, .null, .int 0, .int 0, .int 0])), (q1, .inl (T.1, 64, .inl (fun _ => 0)))]) (pc' := 12) (cells' := 1) (slots' := 64) rfl rfl rfl rfl ?_
  refine cn_ald mo_Bo_init hC hla rfl ?_
  refine cn_bip (n := nI 20) mo_Bo_init hC (by decide) rfl ?_
  refine cn_newi (N := 20) mo_Bo_init hC rfl wa_int rfl (vle rfl) (vle rfl) (vle rfl) (fun q2 => ?_)
  refine cn_putF (q0 := 0) (k := 1) (ci := 0) (ty := .array .int) mo_Bo_init hC hin rfl rfl rfl rfl rfl rfl (by decide +kernel) rfl rfl (vle rfl) ?_
  refine cn_eq (ws' := [(h0, .inr (0, [.ref q1, .ref q2, .null, .int 0, .int 0, .int 0])), (q1, .inl (T.1, 64, .inl (fun _ => 0))), (q2, .inl (T.1, 20, .inl (fun _ => 0)))]) (pc' := 20) (cells' := 2) (slots' := 84) rfl rfl rfl rfl ?_
  refine cn_ald mo_Bo_init hC hla rfl ?_
  refine cn_bip (n := nI 20) mo_Bo_init hC (by decide) rfl ?_
  refine cn_newi (N := 20) mo_Bo_init hC rfl wa_int rfl (vle rfl) (vle rfl) (vle rfl) (fun q3 => ?_)
  refine cn_putF (q0 := 0) (k := 2) (ci := 0) (ty := .array .int) mo_Bo_init hC hin rfl rfl rfl rfl rfl rfl (by decide +kernel) rfl rfl (vle rfl) ?_
  refine cn_eq (ws' := [(h0, .inr (0, [.ref q1, .ref q2, .ref q3, .int 0, .int 0, .int 0])), (q1, .inl (T.1, 64, .inl (fun _ => 0))), (q2, .inl (T.1, 20, .inl (fun _ => 0))), (q3, .inl (T.1, 20, .inl (fun _ => 0)))]) (pc' := 28) (cells' := 3) (slots' := 104) rfl rfl rfl rfl ?_
  refine cn_ald mo_Bo_init hC hla rfl ?_
  refine cn_get (q0 := 0) (k := 0) (ci := 0) mo_Bo_init hC rfl rfl rfl rfl ?_
  refine cn_ico (n := -1) mo_Bo_init hC rfl (by decide) ?_
  refine cn_fill (k := 1) (wr := [(h0, .inr (0, [.ref q1, .ref q2, .ref q3, .int 0, .int 0, .int 0])), (q2, .inl (T.1, 20, .inl (fun _ => 0))), (q3, .inl (T.1, 20, .inl (fun _ => 0)))]) mo_Bo_init hC hl rfl ks_Bo_21 [0, 2, 3] rfl rfl rfl (by decide) hsz (vle rfl) (vle rfl) (vle rfl) (vle rfl) ?_
  exact cn_ret mo_Bo_init hA hC hr hlk rfl [q1, q2, q3] rfl [0, 1, 2, 3] rfl rfl (vle rfl) (vle rfl)
def mt_Re_init : mx_B := [(0, .aload_n 0, 1), (1, .invokespecial 3, 3), (4, .aload_n 0, 1), (5, .new 9, 3), (8, .dup, 1), (9, .invokespecial 11, 3), (12, .putfield 12, 3), (15, .aload_n 0, 1), (16, .new 9, 3), (19, .dup, 1), (20, .invokespecial 11, 3), (23, .putfield 18, 3), (26, .aload_n 0, 1), (27, .sipush 500, 3), (30, .newarray .int, 2), (32, .putfield 21, 3), (35, .aload_n 0, 1), (36, .sipush 500, 3), (39, .newarray .int, 2), (41, .putfield 25, 3), (44, .aload_n 0, 1), (45, .sipush 500, 3), (48, .newarray .int, 2), (50, .putfield 28, 3), (53, .aload_n 0, 1), (54, .sipush 500, 3), (57, .newarray .int, 2), (59, .putfield 31, 3), (62, .return_, 1)]
theorem mt_Re_init_ok : ∀ x ∈ mt_Re_init, decode prog_5_method_1_code x.1 = .ok (x.2.1, x.2.2) := by decide +kernel
abbrev mY_Re_init : mx_Y := (⟨"PegBoards$Reaching", "<init>", "()V"⟩, prog_5_method_1_code, 1, none, "PegBoards$Reaching", [], Cond.code ⟨"PegBoards$Reaching", "<init>", "()V"⟩ prog_5_method_1_code 1 none :: mx_WS)
theorem mo_Re_init : mx_ok mY_Re_init mf_Re mt_Re_init := ⟨mt_Re_init_ok, mf_Re_ok, fun w h => List.mem_cons_of_mem _ h⟩
theorem wz_Re_init : Cond.instanceMethod ⟨"PegBoards$Reaching", "<init>", "()V"⟩ ∈ mx_WS := mx_in 148 (by decide +kernel) rfl
theorem wc_Re_init : Cond.code ⟨"PegBoards$Reaching", "<init>", "()V"⟩ prog_5_method_1_code 1 none ∈ mx_WS := mx_in 149 (by decide +kernel) rfl
theorem wy_Re : Cond.initialized "PegBoards$Reaching" ∈ mx_WS := mx_in 46 (by decide +kernel) rfl
theorem kd_Re_init : mx_cdb mY_Re_init 0 = true := by
  simp only [mx_cdb, Bool.and_eq_true, decide_eq_true_eq]
  exact ⟨⟨⟨⟨⟨wy_Re, wc_Re_init⟩, by decide +kernel⟩, by decide +kernel⟩, by decide +kernel⟩, by decide +kernel⟩
theorem wx_Re : Cond.instantiable "PegBoards$Reaching" 7 ∈ mx_WS := mx_in 146 (by decide +kernel) rfl
theorem wu_Re : ∀ w ∈ u_ws "PegBoards$Reaching" fT_Re 7, w ∈ mx_WS := by
  obtain ⟨C, T0, N, q1, -, -, -, q5, -⟩ := mx_fo_s (List.all_eq_true.mp mf_Re_ok _ (List.mem_cons_self))
  cases q1
  exact q5
theorem wf_Re : ∀ j, j < 7 → (parseFieldDescriptor (fT_Re j).2.2.1).map defaultValue = some (vp_V [.null, .null, .null, .null, .null, .null, .int 0] j) := by decide +kernel
theorem wj_Re : Cond.methodLink "PegBoards$Reaching" 3 Lib.objectInit ∈ mx_WS := mx_in 150 (by decide +kernel) rfl
theorem wl0_Re_9 : Cond.classLink "PegBoards$Reaching" 9 "PegBoards$Found" ∈ mx_WS := mx_in 151 (by decide +kernel) rfl
theorem wl1_Re_11 : Cond.methodLinkNest "PegBoards$Reaching" 11 ⟨"PegBoards$Found", "<init>", "()V"⟩ "PegBoards" ∈ mx_NW := mx_inN 153 (by decide +kernel) rfl
def co_Re (T : mx_T) (h : Nat) (r : List Nat) : va_W := [(h, .inr (3, [.ref (r.getD 0 0), .ref (r.getD 3 0), .ref (r.getD 6 0), .ref (r.getD 7 0), .ref (r.getD 8 0), .ref (r.getD 9 0), .int 0])), ((r.getD 0 0), .inr (1, [.ref (r.getD 1 0), .ref (r.getD 2 0), .int 0])), ((r.getD 1 0), .inl (T.1, 500, .inl (fun _ => 0))), ((r.getD 2 0), .inl (T.1, 1024, .inl (fun _ => 0))), ((r.getD 3 0), .inr (1, [.ref (r.getD 4 0), .ref (r.getD 5 0), .int 0])), ((r.getD 4 0), .inl (T.1, 500, .inl (fun _ => 0))), ((r.getD 5 0), .inl (T.1, 1024, .inl (fun _ => 0))), ((r.getD 6 0), .inl (T.1, 500, .inl (fun _ => 0))), ((r.getD 7 0), .inl (T.1, 500, .inl (fun _ => 0))), ((r.getD 8 0), .inl (T.1, 500, .inl (fun _ => 0))), ((r.getD 9 0), .inl (T.1, 500, .inl (fun _ => 0)))]
set_option maxHeartbeats 4000000 in
theorem ci_Re {l : Launch} (hl : l.stackTraces = false) : cn_Ct l mY_Re_init 1 3 [.null, .null, .null, .null, .null, .null, .int 0] 10 5054 10 co_Re := by
  refine cn_of ⟨by decide +kernel, rfl, rfl, rfl, rfl⟩ rfl ?_
  intro p e s m args below meth c D T adS A h0 la hA hC hin hr hlk hsz hla hexc
  refine cn_ald mo_Re_init hC hla rfl ?_
  refine cn_obj mo_Re_init hC rfl wj_Re wo_i wo_c hsz (vle rfl) (vle rfl) ?_
  refine cn_ald mo_Re_init hC hla rfl ?_
  refine cn_new (ci := 1) (fs := [.null, .null, .int 0]) mo_Re_init hC rfl wl0_Re_9 wx_Fo wy_Fo rfl wu_Fo wf_Fo (vle rfl) (vle rfl) (fun q1 => ?_)
  refine cn_dup mo_Re_init hC rfl ?_
  refine cn_call (k := 1) (wr := [(h0, .inr (3, [.null, .null, .null, .null, .null, .null, .int 0]))]) mo_Re_init hC (ci_Fo hl) rfl (Or.inl wl1_Re_11) wz_Fo_init kd_Fo_init rfl rfl rfl [0] rfl rfl rfl (by decide) hsz (by rfl) (vle rfl) (vle rfl) (vle rfl) (vle rfl) (fun r2 hr2 => ?_)
  refine cn_putF (q0 := 0) (k := 0) (ci := 3) (ty := .object "PegBoards$Found") mo_Re_init hC hin rfl rfl rfl rfl rfl rfl (by decide +kernel) rfl rfl (vle rfl) ?_
  refine cn_eq (ws' := [(h0, .inr (3, [.ref q1, .null, .null, .null, .null, .null, .int 0])), (q1, .inr (1, [.ref (r2.getD 0 0), .ref (r2.getD 1 0), .int 0])), ((r2.getD 0 0), .inl (T.1, 500, .inl (fun _ => 0))), ((r2.getD 1 0), .inl (T.1, 1024, .inl (fun _ => 0)))]) (pc' := 15) (cells' := 3) (slots' := 1527) rfl rfl rfl rfl ?_
  refine cn_ald mo_Re_init hC hla rfl ?_
  refine cn_new (ci := 1) (fs := [.null, .null, .int 0]) mo_Re_init hC rfl wl0_Re_9 wx_Fo wy_Fo rfl wu_Fo wf_Fo (vle rfl) (vle rfl) (fun q3 => ?_)
  refine cn_dup mo_Re_init hC rfl ?_
  refine cn_call (k := 4) (wr := [(h0, .inr (3, [.ref q1, .null, .null, .null, .null, .null, .int 0])), (q1, .inr (1, [.ref (r2.getD 0 0), .ref (r2.getD 1 0), .int 0])), ((r2.getD 0 0), .inl (T.1, 500, .inl (fun _ => 0))), ((r2.getD 1 0), .inl (T.1, 1024, .inl (fun _ => 0)))]) mo_Re_init hC (ci_Fo hl) rfl (Or.inl wl1_Re_11) wz_Fo_init kd_Fo_init rfl rfl rfl [0, 1, 2, 3] rfl rfl rfl (by decide) hsz (by rfl) (vle rfl) (vle rfl) (vle rfl) (vle rfl) (fun r4 hr4 => ?_)
  refine cn_putF (q0 := 0) (k := 1) (ci := 3) (ty := .object "PegBoards$Found") mo_Re_init hC hin rfl rfl rfl rfl rfl rfl (by decide +kernel) rfl rfl (vle rfl) ?_
  refine cn_eq (ws' := [(h0, .inr (3, [.ref q1, .ref q3, .null, .null, .null, .null, .int 0])), (q1, .inr (1, [.ref (r2.getD 0 0), .ref (r2.getD 1 0), .int 0])), ((r2.getD 0 0), .inl (T.1, 500, .inl (fun _ => 0))), ((r2.getD 1 0), .inl (T.1, 1024, .inl (fun _ => 0))), (q3, .inr (1, [.ref (r4.getD 0 0), .ref (r4.getD 1 0), .int 0])), ((r4.getD 0 0), .inl (T.1, 500, .inl (fun _ => 0))), ((r4.getD 1 0), .inl (T.1, 1024, .inl (fun _ => 0)))]) (pc' := 26) (cells' := 6) (slots' := 3054) rfl rfl rfl rfl ?_
  refine cn_ald mo_Re_init hC hla rfl ?_
  refine cn_sip (n := nI 500) mo_Re_init hC (by decide) rfl ?_
  refine cn_newi (N := 500) mo_Re_init hC rfl wa_int rfl (vle rfl) (vle rfl) (vle rfl) (fun q5 => ?_)
  refine cn_putF (q0 := 0) (k := 2) (ci := 3) (ty := .array .int) mo_Re_init hC hin rfl rfl rfl rfl rfl rfl (by decide +kernel) rfl rfl (vle rfl) ?_
  refine cn_eq (ws' := [(h0, .inr (3, [.ref q1, .ref q3, .ref q5, .null, .null, .null, .int 0])), (q1, .inr (1, [.ref (r2.getD 0 0), .ref (r2.getD 1 0), .int 0])), ((r2.getD 0 0), .inl (T.1, 500, .inl (fun _ => 0))), ((r2.getD 1 0), .inl (T.1, 1024, .inl (fun _ => 0))), (q3, .inr (1, [.ref (r4.getD 0 0), .ref (r4.getD 1 0), .int 0])), ((r4.getD 0 0), .inl (T.1, 500, .inl (fun _ => 0))), ((r4.getD 1 0), .inl (T.1, 1024, .inl (fun _ => 0))), (q5, .inl (T.1, 500, .inl (fun _ => 0)))]) (pc' := 35) (cells' := 7) (slots' := 3554) rfl rfl rfl rfl ?_
  refine cn_ald mo_Re_init hC hla rfl ?_
  refine cn_sip (n := nI 500) mo_Re_init hC (by decide) rfl ?_
  refine cn_newi (N := 500) mo_Re_init hC rfl wa_int rfl (vle rfl) (vle rfl) (vle rfl) (fun q6 => ?_)
  refine cn_putF (q0 := 0) (k := 3) (ci := 3) (ty := .array .int) mo_Re_init hC hin rfl rfl rfl rfl rfl rfl (by decide +kernel) rfl rfl (vle rfl) ?_
  refine cn_eq (ws' := [(h0, .inr (3, [.ref q1, .ref q3, .ref q5, .ref q6, .null, .null, .int 0])), (q1, .inr (1, [.ref (r2.getD 0 0), .ref (r2.getD 1 0), .int 0])), ((r2.getD 0 0), .inl (T.1, 500, .inl (fun _ => 0))), ((r2.getD 1 0), .inl (T.1, 1024, .inl (fun _ => 0))), (q3, .inr (1, [.ref (r4.getD 0 0), .ref (r4.getD 1 0), .int 0])), ((r4.getD 0 0), .inl (T.1, 500, .inl (fun _ => 0))), ((r4.getD 1 0), .inl (T.1, 1024, .inl (fun _ => 0))), (q5, .inl (T.1, 500, .inl (fun _ => 0))), (q6, .inl (T.1, 500, .inl (fun _ => 0)))]) (pc' := 44) (cells' := 8) (slots' := 4054) rfl rfl rfl rfl ?_
  refine cn_ald mo_Re_init hC hla rfl ?_
  refine cn_sip (n := nI 500) mo_Re_init hC (by decide) rfl ?_
  refine cn_newi (N := 500) mo_Re_init hC rfl wa_int rfl (vle rfl) (vle rfl) (vle rfl) (fun q7 => ?_)
  refine cn_putF (q0 := 0) (k := 4) (ci := 3) (ty := .array .int) mo_Re_init hC hin rfl rfl rfl rfl rfl rfl (by decide +kernel) rfl rfl (vle rfl) ?_
  refine cn_eq (ws' := [(h0, .inr (3, [.ref q1, .ref q3, .ref q5, .ref q6, .ref q7, .null, .int 0])), (q1, .inr (1, [.ref (r2.getD 0 0), .ref (r2.getD 1 0), .int 0])), ((r2.getD 0 0), .inl (T.1, 500, .inl (fun _ => 0))), ((r2.getD 1 0), .inl (T.1, 1024, .inl (fun _ => 0))), (q3, .inr (1, [.ref (r4.getD 0 0), .ref (r4.getD 1 0), .int 0])), ((r4.getD 0 0), .inl (T.1, 500, .inl (fun _ => 0))), ((r4.getD 1 0), .inl (T.1, 1024, .inl (fun _ => 0))), (q5, .inl (T.1, 500, .inl (fun _ => 0))), (q6, .inl (T.1, 500, .inl (fun _ => 0))), (q7, .inl (T.1, 500, .inl (fun _ => 0)))]) (pc' := 53) (cells' := 9) (slots' := 4554) rfl rfl rfl rfl ?_
  refine cn_ald mo_Re_init hC hla rfl ?_
  refine cn_sip (n := nI 500) mo_Re_init hC (by decide) rfl ?_
  refine cn_newi (N := 500) mo_Re_init hC rfl wa_int rfl (vle rfl) (vle rfl) (vle rfl) (fun q8 => ?_)
  refine cn_putF (q0 := 0) (k := 5) (ci := 3) (ty := .array .int) mo_Re_init hC hin rfl rfl rfl rfl rfl rfl (by decide +kernel) rfl rfl (vle rfl) ?_
  refine cn_eq (ws' := [(h0, .inr (3, [.ref q1, .ref q3, .ref q5, .ref q6, .ref q7, .ref q8, .int 0])), (q1, .inr (1, [.ref (r2.getD 0 0), .ref (r2.getD 1 0), .int 0])), ((r2.getD 0 0), .inl (T.1, 500, .inl (fun _ => 0))), ((r2.getD 1 0), .inl (T.1, 1024, .inl (fun _ => 0))), (q3, .inr (1, [.ref (r4.getD 0 0), .ref (r4.getD 1 0), .int 0])), ((r4.getD 0 0), .inl (T.1, 500, .inl (fun _ => 0))), ((r4.getD 1 0), .inl (T.1, 1024, .inl (fun _ => 0))), (q5, .inl (T.1, 500, .inl (fun _ => 0))), (q6, .inl (T.1, 500, .inl (fun _ => 0))), (q7, .inl (T.1, 500, .inl (fun _ => 0))), (q8, .inl (T.1, 500, .inl (fun _ => 0)))]) (pc' := 62) (cells' := 10) (slots' := 5054) rfl rfl rfl rfl ?_
  exact cn_ret mo_Re_init hA hC hr hlk rfl [q1, (r2.getD 0 0), (r2.getD 1 0), q3, (r4.getD 0 0), (r4.getD 1 0), q5, q6, q7, q8] rfl [0, 1, 2, 3, 4, 5, 6, 7, 8, 9, 10] rfl rfl (vle rfl) (vle rfl)
def mt_Mo_init : mx_B := [(0, .aload_n 0, 1), (1, .invokespecial 1, 3), (4, .aload_n 0, 1), (5, .bipush 64, 2), (7, .newarray .boolean, 2), (9, .putfield 7, 3), (12, .aload_n 0, 1), (13, .bipush 64, 2), (15, .newarray .int, 2), (17, .putfield 13, 3), (20, .aload_n 0, 1), (21, .bipush 20, 2), (23, .newarray .int, 2), (25, .putfield 17, 3), (28, .aload_n 0, 1), (29, .bipush 20, 2), (31, .newarray .int, 2), (33, .putfield 20, 3), (36, .aload_n 0, 1), (37, .bipush 120, 2), (39, .newarray .int, 2), (41, .putfield 23, 3), (44, .aload_n 0, 1), (45, .bipush 120, 2), (47, .newarray .int, 2), (49, .putfield 26, 3), (52, .aload_n 0, 1), (53, .bipush 120, 2), (55, .newarray .int, 2), (57, .putfield 29, 3), (60, .aload_n 0, 1), (61, .sipush 240, 3), (64, .newarray .int, 2), (66, .putfield 32, 3), (69, .aload_n 0, 1), (70, .bipush 20, 2), (72, .newarray .int, 2), (74, .putfield 35, 3), (77, .aload_n 0, 1), (78, .bipush 20, 2), (80, .newarray .int, 2), (82, .putfield 38, 3), (85, .aload_n 0, 1), (86, .bipush 20, 2), (88, .newarray .int, 2), (90, .putfield 41, 3), (93, .aload_n 0, 1), (94, .bipush 8, 2), (96, .newarray .int, 2), (98, .putfield 44, 3), (101, .aload_n 0, 1), (102, .sipush 500, 3), (105, .newarray .int, 2), (107, .putfield 47, 3), (110, .aload_n 0, 1), (111, .sipush 500, 3), (114, .newarray .int, 2), (116, .putfield 50, 3), (119, .aload_n 0, 1), (120, .sipush 500, 3), (123, .newarray .int, 2), (125, .putfield 53, 3), (128, .aload_n 0, 1), (129, .sipush 1024, 3), (132, .newarray .int, 2), (134, .putfield 56, 3), (137, .aload_n 0, 1), (138, .sipush 10500, 3), (141, .newarray .int, 2), (143, .putfield 59, 3), (146, .aload_n 0, 1), (147, .sipush 500, 3), (150, .newarray .int, 2), (152, .putfield 62, 3), (155, .return_, 1)]
theorem mt_Mo_init_ok : ∀ x ∈ mt_Mo_init, decode prog_9_method_1_code x.1 = .ok (x.2.1, x.2.2) := by decide +kernel
abbrev mY_Mo_init : mx_Y := (⟨"PegBoardsModel", "<init>", "()V"⟩, prog_9_method_1_code, 1, none, "PegBoardsModel", [], Cond.code ⟨"PegBoardsModel", "<init>", "()V"⟩ prog_9_method_1_code 1 none :: mx_WS)
theorem mo_Mo_init : mx_ok mY_Mo_init mf_Mo mt_Mo_init := ⟨mt_Mo_init_ok, mf_Mo_ok, fun w h => List.mem_cons_of_mem _ h⟩
theorem wz_Mo_init : Cond.instanceMethod ⟨"PegBoardsModel", "<init>", "()V"⟩ ∈ mx_WS := mx_in 778 (by decide +kernel) rfl
theorem wc_Mo_init : Cond.code ⟨"PegBoardsModel", "<init>", "()V"⟩ prog_9_method_1_code 1 none ∈ mx_WS := mx_in 779 (by decide +kernel) rfl
theorem wy_Mo : Cond.initialized "PegBoardsModel" ∈ mx_WS := mx_in 49 (by decide +kernel) rfl
theorem kd_Mo_init : mx_cdb mY_Mo_init 0 = true := by
  simp only [mx_cdb, Bool.and_eq_true, decide_eq_true_eq]
  exact ⟨⟨⟨⟨⟨wy_Mo, wc_Mo_init⟩, by decide +kernel⟩, by decide +kernel⟩, by decide +kernel⟩, by decide +kernel⟩
theorem wx_Mo : Cond.instantiable "PegBoardsModel" 28 ∈ mx_WS := mx_in 776 (by decide +kernel) rfl
theorem wu_Mo : ∀ w ∈ u_ws "PegBoardsModel" fT_Mo 28, w ∈ mx_WS := by
  obtain ⟨C, T0, N, q1, -, -, -, q5, -⟩ := mx_fo_s (List.all_eq_true.mp mf_Mo_ok _ (List.mem_cons_self))
  cases q1
  exact q5
theorem wf_Mo : ∀ j, j < 28 → (parseFieldDescriptor (fT_Mo j).2.2.1).map defaultValue = some (vp_V [.int 0, .int 0, .int 0, .int 0, .null, .null, .null, .null, .int 0, .null, .null, .null, .int 0, .null, .null, .null, .int 0, .int 0, .null, .null, .int 0, .null, .null, .null, .null, .null, .int 0, .null] j) := by decide +kernel
theorem wj_Mo : Cond.methodLink "PegBoardsModel" 1 Lib.objectInit ∈ mx_WS := mx_in 780 (by decide +kernel) rfl
def co_Mo (T : mx_T) (h : Nat) (r : List Nat) : va_W := [(h, .inr (7, [.int 0, .int 0, .int 0, .int 0, .ref (r.getD 0 0), .ref (r.getD 1 0), .ref (r.getD 2 0), .ref (r.getD 3 0), .int 0, .ref (r.getD 4 0), .ref (r.getD 5 0), .ref (r.getD 6 0), .int 0, .ref (r.getD 7 0), .ref (r.getD 8 0), .ref (r.getD 9 0), .int 0, .int 0, .ref (r.getD 10 0), .ref (r.getD 11 0), .int 0, .ref (r.getD 12 0), .ref (r.getD 13 0), .ref (r.getD 14 0), .ref (r.getD 15 0), .ref (r.getD 16 0), .int 0, .ref (r.getD 17 0)])), ((r.getD 0 0), .inl (T.2.2.2, 64, .inl (fun _ => 0))), ((r.getD 1 0), .inl (T.1, 64, .inl (fun _ => 0))), ((r.getD 2 0), .inl (T.1, 20, .inl (fun _ => 0))), ((r.getD 3 0), .inl (T.1, 20, .inl (fun _ => 0))), ((r.getD 4 0), .inl (T.1, 120, .inl (fun _ => 0))), ((r.getD 5 0), .inl (T.1, 120, .inl (fun _ => 0))), ((r.getD 6 0), .inl (T.1, 120, .inl (fun _ => 0))), ((r.getD 7 0), .inl (T.1, 240, .inl (fun _ => 0))), ((r.getD 8 0), .inl (T.1, 20, .inl (fun _ => 0))), ((r.getD 9 0), .inl (T.1, 20, .inl (fun _ => 0))), ((r.getD 10 0), .inl (T.1, 20, .inl (fun _ => 0))), ((r.getD 11 0), .inl (T.1, 8, .inl (fun _ => 0))), ((r.getD 12 0), .inl (T.1, 500, .inl (fun _ => 0))), ((r.getD 13 0), .inl (T.1, 500, .inl (fun _ => 0))), ((r.getD 14 0), .inl (T.1, 500, .inl (fun _ => 0))), ((r.getD 15 0), .inl (T.1, 1024, .inl (fun _ => 0))), ((r.getD 16 0), .inl (T.1, 10500, .inl (fun _ => 0))), ((r.getD 17 0), .inl (T.1, 500, .inl (fun _ => 0)))]
set_option maxHeartbeats 4000000 in
theorem ci_Mo {l : Launch} (hl : l.stackTraces = false) : cn_Ct l mY_Mo_init 0 7 [.int 0, .int 0, .int 0, .int 0, .null, .null, .null, .null, .int 0, .null, .null, .null, .int 0, .null, .null, .null, .int 0, .int 0, .null, .null, .int 0, .null, .null, .null, .null, .null, .int 0, .null] 18 14360 18 co_Mo := by
  refine cn_of ⟨by decide +kernel, rfl, rfl, rfl, rfl⟩ rfl ?_
  intro p e s m args below meth c D T adS A h0 la hA hC hin hr hlk hsz hla hexc
  refine cn_ald mo_Mo_init hC hla rfl ?_
  refine cn_obj mo_Mo_init hC rfl wj_Mo wo_i wo_c hsz (vle rfl) (vle rfl) ?_
  refine cn_ald mo_Mo_init hC hla rfl ?_
  refine cn_bip (n := nI 64) mo_Mo_init hC (by decide) rfl ?_
  refine cn_newz (N := 64) mo_Mo_init hC rfl wa_bool rfl (vle rfl) (vle rfl) (vle rfl) (fun q1 => ?_)
  refine cn_putF (q0 := 0) (k := 4) (ci := 7) (ty := .array .boolean) mo_Mo_init hC hin rfl rfl rfl rfl rfl rfl (by decide +kernel) rfl rfl (vle rfl) ?_
  refine cn_eq (ws' := [(h0, .inr (7, [.int 0, .int 0, .int 0, .int 0, .ref q1, .null, .null, .null, .int 0, .null, .null, .null, .int 0, .null, .null, .null, .int 0, .int 0, .null, .null, .int 0, .null, .null, .null, .null, .null, .int 0, .null])), (q1, .inl (T.2.2.2, 64, .inl (fun _ => 0)))]) (pc' := 12) (cells' := 1) (slots' := 64) rfl rfl rfl rfl ?_
  refine cn_ald mo_Mo_init hC hla rfl ?_
  refine cn_bip (n := nI 64) mo_Mo_init hC (by decide) rfl ?_
  refine cn_newi (N := 64) mo_Mo_init hC rfl wa_int rfl (vle rfl) (vle rfl) (vle rfl) (fun q2 => ?_)
  refine cn_putF (q0 := 0) (k := 5) (ci := 7) (ty := .array .int) mo_Mo_init hC hin rfl rfl rfl rfl rfl rfl (by decide +kernel) rfl rfl (vle rfl) ?_
  refine cn_eq (ws' := [(h0, .inr (7, [.int 0, .int 0, .int 0, .int 0, .ref q1, .ref q2, .null, .null, .int 0, .null, .null, .null, .int 0, .null, .null, .null, .int 0, .int 0, .null, .null, .int 0, .null, .null, .null, .null, .null, .int 0, .null])), (q1, .inl (T.2.2.2, 64, .inl (fun _ => 0))), (q2, .inl (T.1, 64, .inl (fun _ => 0)))]) (pc' := 20) (cells' := 2) (slots' := 128) rfl rfl rfl rfl ?_
  refine cn_ald mo_Mo_init hC hla rfl ?_
  refine cn_bip (n := nI 20) mo_Mo_init hC (by decide) rfl ?_
  refine cn_newi (N := 20) mo_Mo_init hC rfl wa_int rfl (vle rfl) (vle rfl) (vle rfl) (fun q3 => ?_)
  refine cn_putF (q0 := 0) (k := 6) (ci := 7) (ty := .array .int) mo_Mo_init hC hin rfl rfl rfl rfl rfl rfl (by decide +kernel) rfl rfl (vle rfl) ?_
  refine cn_eq (ws' := [(h0, .inr (7, [.int 0, .int 0, .int 0, .int 0, .ref q1, .ref q2, .ref q3, .null, .int 0, .null, .null, .null, .int 0, .null, .null, .null, .int 0, .int 0, .null, .null, .int 0, .null, .null, .null, .null, .null, .int 0, .null])), (q1, .inl (T.2.2.2, 64, .inl (fun _ => 0))), (q2, .inl (T.1, 64, .inl (fun _ => 0))), (q3, .inl (T.1, 20, .inl (fun _ => 0)))]) (pc' := 28) (cells' := 3) (slots' := 148) rfl rfl rfl rfl ?_
  refine cn_ald mo_Mo_init hC hla rfl ?_
  refine cn_bip (n := nI 20) mo_Mo_init hC (by decide) rfl ?_
  refine cn_newi (N := 20) mo_Mo_init hC rfl wa_int rfl (vle rfl) (vle rfl) (vle rfl) (fun q4 => ?_)
  refine cn_putF (q0 := 0) (k := 7) (ci := 7) (ty := .array .int) mo_Mo_init hC hin rfl rfl rfl rfl rfl rfl (by decide +kernel) rfl rfl (vle rfl) ?_
  refine cn_eq (ws' := [(h0, .inr (7, [.int 0, .int 0, .int 0, .int 0, .ref q1, .ref q2, .ref q3, .ref q4, .int 0, .null, .null, .null, .int 0, .null, .null, .null, .int 0, .int 0, .null, .null, .int 0, .null, .null, .null, .null, .null, .int 0, .null])), (q1, .inl (T.2.2.2, 64, .inl (fun _ => 0))), (q2, .inl (T.1, 64, .inl (fun _ => 0))), (q3, .inl (T.1, 20, .inl (fun _ => 0))), (q4, .inl (T.1, 20, .inl (fun _ => 0)))]) (pc' := 36) (cells' := 4) (slots' := 168) rfl rfl rfl rfl ?_
  refine cn_ald mo_Mo_init hC hla rfl ?_
  refine cn_bip (n := nI 120) mo_Mo_init hC (by decide) rfl ?_
  refine cn_newi (N := 120) mo_Mo_init hC rfl wa_int rfl (vle rfl) (vle rfl) (vle rfl) (fun q5 => ?_)
  refine cn_putF (q0 := 0) (k := 9) (ci := 7) (ty := .array .int) mo_Mo_init hC hin rfl rfl rfl rfl rfl rfl (by decide +kernel) rfl rfl (vle rfl) ?_
  refine cn_eq (ws' := [(h0, .inr (7, [.int 0, .int 0, .int 0, .int 0, .ref q1, .ref q2, .ref q3, .ref q4, .int 0, .ref q5, .null, .null, .int 0, .null, .null, .null, .int 0, .int 0, .null, .null, .int 0, .null, .null, .null, .null, .null, .int 0, .null])), (q1, .inl (T.2.2.2, 64, .inl (fun _ => 0))), (q2, .inl (T.1, 64, .inl (fun _ => 0))), (q3, .inl (T.1, 20, .inl (fun _ => 0))), (q4, .inl (T.1, 20, .inl (fun _ => 0))), (q5, .inl (T.1, 120, .inl (fun _ => 0)))]) (pc' := 44) (cells' := 5) (slots' := 288) rfl rfl rfl rfl ?_
  refine cn_ald mo_Mo_init hC hla rfl ?_
  refine cn_bip (n := nI 120) mo_Mo_init hC (by decide) rfl ?_
  refine cn_newi (N := 120) mo_Mo_init hC rfl wa_int rfl (vle rfl) (vle rfl) (vle rfl) (fun q6 => ?_)
  refine cn_putF (q0 := 0) (k := 10) (ci := 7) (ty := .array .int) mo_Mo_init hC hin rfl rfl rfl rfl rfl rfl (by decide +kernel) rfl rfl (vle rfl) ?_
  refine cn_eq (ws' := [(h0, .inr (7, [.int 0, .int 0, .int 0, .int 0, .ref q1, .ref q2, .ref q3, .ref q4, .int 0, .ref q5, .ref q6, .null, .int 0, .null, .null, .null, .int 0, .int 0, .null, .null, .int 0, .null, .null, .null, .null, .null, .int 0, .null])), (q1, .inl (T.2.2.2, 64, .inl (fun _ => 0))), (q2, .inl (T.1, 64, .inl (fun _ => 0))), (q3, .inl (T.1, 20, .inl (fun _ => 0))), (q4, .inl (T.1, 20, .inl (fun _ => 0))), (q5, .inl (T.1, 120, .inl (fun _ => 0))), (q6, .inl (T.1, 120, .inl (fun _ => 0)))]) (pc' := 52) (cells' := 6) (slots' := 408) rfl rfl rfl rfl ?_
  refine cn_ald mo_Mo_init hC hla rfl ?_
  refine cn_bip (n := nI 120) mo_Mo_init hC (by decide) rfl ?_
  refine cn_newi (N := 120) mo_Mo_init hC rfl wa_int rfl (vle rfl) (vle rfl) (vle rfl) (fun q7 => ?_)
  refine cn_putF (q0 := 0) (k := 11) (ci := 7) (ty := .array .int) mo_Mo_init hC hin rfl rfl rfl rfl rfl rfl (by decide +kernel) rfl rfl (vle rfl) ?_
  refine cn_eq (ws' := [(h0, .inr (7, [.int 0, .int 0, .int 0, .int 0, .ref q1, .ref q2, .ref q3, .ref q4, .int 0, .ref q5, .ref q6, .ref q7, .int 0, .null, .null, .null, .int 0, .int 0, .null, .null, .int 0, .null, .null, .null, .null, .null, .int 0, .null])), (q1, .inl (T.2.2.2, 64, .inl (fun _ => 0))), (q2, .inl (T.1, 64, .inl (fun _ => 0))), (q3, .inl (T.1, 20, .inl (fun _ => 0))), (q4, .inl (T.1, 20, .inl (fun _ => 0))), (q5, .inl (T.1, 120, .inl (fun _ => 0))), (q6, .inl (T.1, 120, .inl (fun _ => 0))), (q7, .inl (T.1, 120, .inl (fun _ => 0)))]) (pc' := 60) (cells' := 7) (slots' := 528) rfl rfl rfl rfl ?_
  refine cn_ald mo_Mo_init hC hla rfl ?_
  refine cn_sip (n := nI 240) mo_Mo_init hC (by decide) rfl ?_
  refine cn_newi (N := 240) mo_Mo_init hC rfl wa_int rfl (vle rfl) (vle rfl) (vle rfl) (fun q8 => ?_)
  refine cn_putF (q0 := 0) (k := 13) (ci := 7) (ty := .array .int) mo_Mo_init hC hin rfl rfl rfl rfl rfl rfl (by decide +kernel) rfl rfl (vle rfl) ?_
  refine cn_eq (ws' := [(h0, .inr (7, [.int 0, .int 0, .int 0, .int 0, .ref q1, .ref q2, .ref q3, .ref q4, .int 0, .ref q5, .ref q6, .ref q7, .int 0, .ref q8, .null, .null, .int 0, .int 0, .null, .null, .int 0, .null, .null, .null, .null, .null, .int 0, .null])), (q1, .inl (T.2.2.2, 64, .inl (fun _ => 0))), (q2, .inl (T.1, 64, .inl (fun _ => 0))), (q3, .inl (T.1, 20, .inl (fun _ => 0))), (q4, .inl (T.1, 20, .inl (fun _ => 0))), (q5, .inl (T.1, 120, .inl (fun _ => 0))), (q6, .inl (T.1, 120, .inl (fun _ => 0))), (q7, .inl (T.1, 120, .inl (fun _ => 0))), (q8, .inl (T.1, 240, .inl (fun _ => 0)))]) (pc' := 69) (cells' := 8) (slots' := 768) rfl rfl rfl rfl ?_
  refine cn_ald mo_Mo_init hC hla rfl ?_
  refine cn_bip (n := nI 20) mo_Mo_init hC (by decide) rfl ?_
  refine cn_newi (N := 20) mo_Mo_init hC rfl wa_int rfl (vle rfl) (vle rfl) (vle rfl) (fun q9 => ?_)
  refine cn_putF (q0 := 0) (k := 14) (ci := 7) (ty := .array .int) mo_Mo_init hC hin rfl rfl rfl rfl rfl rfl (by decide +kernel) rfl rfl (vle rfl) ?_
  refine cn_eq (ws' := [(h0, .inr (7, [.int 0, .int 0, .int 0, .int 0, .ref q1, .ref q2, .ref q3, .ref q4, .int 0, .ref q5, .ref q6, .ref q7, .int 0, .ref q8, .ref q9, .null, .int 0, .int 0, .null, .null, .int 0, .null, .null, .null, .null, .null, .int 0, .null])), (q1, .inl (T.2.2.2, 64, .inl (fun _ => 0))), (q2, .inl (T.1, 64, .inl (fun _ => 0))), (q3, .inl (T.1, 20, .inl (fun _ => 0))), (q4, .inl (T.1, 20, .inl (fun _ => 0))), (q5, .inl (T.1, 120, .inl (fun _ => 0))), (q6, .inl (T.1, 120, .inl (fun _ => 0))), (q7, .inl (T.1, 120, .inl (fun _ => 0))), (q8, .inl (T.1, 240, .inl (fun _ => 0))), (q9, .inl (T.1, 20, .inl (fun _ => 0)))]) (pc' := 77) (cells' := 9) (slots' := 788) rfl rfl rfl rfl ?_
  refine cn_ald mo_Mo_init hC hla rfl ?_
  refine cn_bip (n := nI 20) mo_Mo_init hC (by decide) rfl ?_
  refine cn_newi (N := 20) mo_Mo_init hC rfl wa_int rfl (vle rfl) (vle rfl) (vle rfl) (fun q10 => ?_)
  refine cn_putF (q0 := 0) (k := 15) (ci := 7) (ty := .array .int) mo_Mo_init hC hin rfl rfl rfl rfl rfl rfl (by decide +kernel) rfl rfl (vle rfl) ?_
  refine cn_eq (ws' := [(h0, .inr (7, [.int 0, .int 0, .int 0, .int 0, .ref q1, .ref q2, .ref q3, .ref q4, .int 0, .ref q5, .ref q6, .ref q7, .int 0, .ref q8, .ref q9, .ref q10, .int 0, .int 0, .null, .null, .int 0, .null, .null, .null, .null, .null, .int 0, .null])), (q1, .inl (T.2.2.2, 64, .inl (fun _ => 0))), (q2, .inl (T.1, 64, .inl (fun _ => 0))), (q3, .inl (T.1, 20, .inl (fun _ => 0))), (q4, .inl (T.1, 20, .inl (fun _ => 0))), (q5, .inl (T.1, 120, .inl (fun _ => 0))), (q6, .inl (T.1, 120, .inl (fun _ => 0))), (q7, .inl (T.1, 120, .inl (fun _ => 0))), (q8, .inl (T.1, 240, .inl (fun _ => 0))), (q9, .inl (T.1, 20, .inl (fun _ => 0))), (q10, .inl (T.1, 20, .inl (fun _ => 0)))]) (pc' := 85) (cells' := 10) (slots' := 808) rfl rfl rfl rfl ?_
  refine cn_ald mo_Mo_init hC hla rfl ?_
  refine cn_bip (n := nI 20) mo_Mo_init hC (by decide) rfl ?_
  refine cn_newi (N := 20) mo_Mo_init hC rfl wa_int rfl (vle rfl) (vle rfl) (vle rfl) (fun q11 => ?_)
  refine cn_putF (q0 := 0) (k := 18) (ci := 7) (ty := .array .int) mo_Mo_init hC hin rfl rfl rfl rfl rfl rfl (by decide +kernel) rfl rfl (vle rfl) ?_
  refine cn_eq (ws' := [(h0, .inr (7, [.int 0, .int 0, .int 0, .int 0, .ref q1, .ref q2, .ref q3, .ref q4, .int 0, .ref q5, .ref q6, .ref q7, .int 0, .ref q8, .ref q9, .ref q10, .int 0, .int 0, .ref q11, .null, .int 0, .null, .null, .null, .null, .null, .int 0, .null])), (q1, .inl (T.2.2.2, 64, .inl (fun _ => 0))), (q2, .inl (T.1, 64, .inl (fun _ => 0))), (q3, .inl (T.1, 20, .inl (fun _ => 0))), (q4, .inl (T.1, 20, .inl (fun _ => 0))), (q5, .inl (T.1, 120, .inl (fun _ => 0))), (q6, .inl (T.1, 120, .inl (fun _ => 0))), (q7, .inl (T.1, 120, .inl (fun _ => 0))), (q8, .inl (T.1, 240, .inl (fun _ => 0))), (q9, .inl (T.1, 20, .inl (fun _ => 0))), (q10, .inl (T.1, 20, .inl (fun _ => 0))), (q11, .inl (T.1, 20, .inl (fun _ => 0)))]) (pc' := 93) (cells' := 11) (slots' := 828) rfl rfl rfl rfl ?_
  refine cn_ald mo_Mo_init hC hla rfl ?_
  refine cn_bip (n := nI 8) mo_Mo_init hC (by decide) rfl ?_
  refine cn_newi (N := 8) mo_Mo_init hC rfl wa_int rfl (vle rfl) (vle rfl) (vle rfl) (fun q12 => ?_)
  refine cn_putF (q0 := 0) (k := 19) (ci := 7) (ty := .array .int) mo_Mo_init hC hin rfl rfl rfl rfl rfl rfl (by decide +kernel) rfl rfl (vle rfl) ?_
  refine cn_eq (ws' := [(h0, .inr (7, [.int 0, .int 0, .int 0, .int 0, .ref q1, .ref q2, .ref q3, .ref q4, .int 0, .ref q5, .ref q6, .ref q7, .int 0, .ref q8, .ref q9, .ref q10, .int 0, .int 0, .ref q11, .ref q12, .int 0, .null, .null, .null, .null, .null, .int 0, .null])), (q1, .inl (T.2.2.2, 64, .inl (fun _ => 0))), (q2, .inl (T.1, 64, .inl (fun _ => 0))), (q3, .inl (T.1, 20, .inl (fun _ => 0))), (q4, .inl (T.1, 20, .inl (fun _ => 0))), (q5, .inl (T.1, 120, .inl (fun _ => 0))), (q6, .inl (T.1, 120, .inl (fun _ => 0))), (q7, .inl (T.1, 120, .inl (fun _ => 0))), (q8, .inl (T.1, 240, .inl (fun _ => 0))), (q9, .inl (T.1, 20, .inl (fun _ => 0))), (q10, .inl (T.1, 20, .inl (fun _ => 0))), (q11, .inl (T.1, 20, .inl (fun _ => 0))), (q12, .inl (T.1, 8, .inl (fun _ => 0)))]) (pc' := 101) (cells' := 12) (slots' := 836) rfl rfl rfl rfl ?_
  refine cn_ald mo_Mo_init hC hla rfl ?_
  refine cn_sip (n := nI 500) mo_Mo_init hC (by decide) rfl ?_
  refine cn_newi (N := 500) mo_Mo_init hC rfl wa_int rfl (vle rfl) (vle rfl) (vle rfl) (fun q13 => ?_)
  refine cn_putF (q0 := 0) (k := 21) (ci := 7) (ty := .array .int) mo_Mo_init hC hin rfl rfl rfl rfl rfl rfl (by decide +kernel) rfl rfl (vle rfl) ?_
  refine cn_eq (ws' := [(h0, .inr (7, [.int 0, .int 0, .int 0, .int 0, .ref q1, .ref q2, .ref q3, .ref q4, .int 0, .ref q5, .ref q6, .ref q7, .int 0, .ref q8, .ref q9, .ref q10, .int 0, .int 0, .ref q11, .ref q12, .int 0, .ref q13, .null, .null, .null, .null, .int 0, .null])), (q1, .inl (T.2.2.2, 64, .inl (fun _ => 0))), (q2, .inl (T.1, 64, .inl (fun _ => 0))), (q3, .inl (T.1, 20, .inl (fun _ => 0))), (q4, .inl (T.1, 20, .inl (fun _ => 0))), (q5, .inl (T.1, 120, .inl (fun _ => 0))), (q6, .inl (T.1, 120, .inl (fun _ => 0))), (q7, .inl (T.1, 120, .inl (fun _ => 0))), (q8, .inl (T.1, 240, .inl (fun _ => 0))), (q9, .inl (T.1, 20, .inl (fun _ => 0))), (q10, .inl (T.1, 20, .inl (fun _ => 0))), (q11, .inl (T.1, 20, .inl (fun _ => 0))), (q12, .inl (T.1, 8, .inl (fun _ => 0))), (q13, .inl (T.1, 500, .inl (fun _ => 0)))]) (pc' := 110) (cells' := 13) (slots' := 1336) rfl rfl rfl rfl ?_
  refine cn_ald mo_Mo_init hC hla rfl ?_
  refine cn_sip (n := nI 500) mo_Mo_init hC (by decide) rfl ?_
  refine cn_newi (N := 500) mo_Mo_init hC rfl wa_int rfl (vle rfl) (vle rfl) (vle rfl) (fun q14 => ?_)
  refine cn_putF (q0 := 0) (k := 22) (ci := 7) (ty := .array .int) mo_Mo_init hC hin rfl rfl rfl rfl rfl rfl (by decide +kernel) rfl rfl (vle rfl) ?_
  refine cn_eq (ws' := [(h0, .inr (7, [.int 0, .int 0, .int 0, .int 0, .ref q1, .ref q2, .ref q3, .ref q4, .int 0, .ref q5, .ref q6, .ref q7, .int 0, .ref q8, .ref q9, .ref q10, .int 0, .int 0, .ref q11, .ref q12, .int 0, .ref q13, .ref q14, .null, .null, .null, .int 0, .null])), (q1, .inl (T.2.2.2, 64, .inl (fun _ => 0))), (q2, .inl (T.1, 64, .inl (fun _ => 0))), (q3, .inl (T.1, 20, .inl (fun _ => 0))), (q4, .inl (T.1, 20, .inl (fun _ => 0))), (q5, .inl (T.1, 120, .inl (fun _ => 0))), (q6, .inl (T.1, 120, .inl (fun _ => 0))), (q7, .inl (T.1, 120, .inl (fun _ => 0))), (q8, .inl (T.1, 240, .inl (fun _ => 0))), (q9, .inl (T.1, 20, .inl (fun _ => 0))), (q10, .inl (T.1, 20, .inl (fun _ => 0))), (q11, .inl (T.1, 20, .inl (fun _ => 0))), (q12, .inl (T.1, 8, .inl (fun _ => 0))), (q13, .inl (T.1, 500, .inl (fun _ => 0))), (q14, .inl (T.1, 500, .inl (fun _ => 0)))]) (pc' := 119) (cells' := 14) (slots' := 1836) rfl rfl rfl rfl ?_
  refine cn_ald mo_Mo_init hC hla rfl ?_
  refine cn_sip (n := nI 500) mo_Mo_init hC (by decide) rfl ?_
  refine cn_newi (N := 500) mo_Mo_init hC rfl wa_int rfl (vle rfl) (vle rfl) (vle rfl) (fun q15 => ?_)
  refine cn_putF (q0 := 0) (k := 23) (ci := 7) (ty := .array .int) mo_Mo_init hC hin rfl rfl rfl rfl rfl rfl (by decide +kernel) rfl rfl (vle rfl) ?_
  refine cn_eq (ws' := [(h0, .inr (7, [.int 0, .int 0, .int 0, .int 0, .ref q1, .ref q2, .ref q3, .ref q4, .int 0, .ref q5, .ref q6, .ref q7, .int 0, .ref q8, .ref q9, .ref q10, .int 0, .int 0, .ref q11, .ref q12, .int 0, .ref q13, .ref q14, .ref q15, .null, .null, .int 0, .null])), (q1, .inl (T.2.2.2, 64, .inl (fun _ => 0))), (q2, .inl (T.1, 64, .inl (fun _ => 0))), (q3, .inl (T.1, 20, .inl (fun _ => 0))), (q4, .inl (T.1, 20, .inl (fun _ => 0))), (q5, .inl (T.1, 120, .inl (fun _ => 0))), (q6, .inl (T.1, 120, .inl (fun _ => 0))), (q7, .inl (T.1, 120, .inl (fun _ => 0))), (q8, .inl (T.1, 240, .inl (fun _ => 0))), (q9, .inl (T.1, 20, .inl (fun _ => 0))), (q10, .inl (T.1, 20, .inl (fun _ => 0))), (q11, .inl (T.1, 20, .inl (fun _ => 0))), (q12, .inl (T.1, 8, .inl (fun _ => 0))), (q13, .inl (T.1, 500, .inl (fun _ => 0))), (q14, .inl (T.1, 500, .inl (fun _ => 0))), (q15, .inl (T.1, 500, .inl (fun _ => 0)))]) (pc' := 128) (cells' := 15) (slots' := 2336) rfl rfl rfl rfl ?_
  refine cn_ald mo_Mo_init hC hla rfl ?_
  refine cn_sip (n := nI 1024) mo_Mo_init hC (by decide) rfl ?_
  refine cn_newi (N := 1024) mo_Mo_init hC rfl wa_int rfl (vle rfl) (vle rfl) (vle rfl) (fun q16 => ?_)
  refine cn_putF (q0 := 0) (k := 24) (ci := 7) (ty := .array .int) mo_Mo_init hC hin rfl rfl rfl rfl rfl rfl (by decide +kernel) rfl rfl (vle rfl) ?_
  refine cn_eq (ws' := [(h0, .inr (7, [.int 0, .int 0, .int 0, .int 0, .ref q1, .ref q2, .ref q3, .ref q4, .int 0, .ref q5, .ref q6, .ref q7, .int 0, .ref q8, .ref q9, .ref q10, .int 0, .int 0, .ref q11, .ref q12, .int 0, .ref q13, .ref q14, .ref q15, .ref q16, .null, .int 0, .null])), (q1, .inl (T.2.2.2, 64, .inl (fun _ => 0))), (q2, .inl (T.1, 64, .inl (fun _ => 0))), (q3, .inl (T.1, 20, .inl (fun _ => 0))), (q4, .inl (T.1, 20, .inl (fun _ => 0))), (q5, .inl (T.1, 120, .inl (fun _ => 0))), (q6, .inl (T.1, 120, .inl (fun _ => 0))), (q7, .inl (T.1, 120, .inl (fun _ => 0))), (q8, .inl (T.1, 240, .inl (fun _ => 0))), (q9, .inl (T.1, 20, .inl (fun _ => 0))), (q10, .inl (T.1, 20, .inl (fun _ => 0))), (q11, .inl (T.1, 20, .inl (fun _ => 0))), (q12, .inl (T.1, 8, .inl (fun _ => 0))), (q13, .inl (T.1, 500, .inl (fun _ => 0))), (q14, .inl (T.1, 500, .inl (fun _ => 0))), (q15, .inl (T.1, 500, .inl (fun _ => 0))), (q16, .inl (T.1, 1024, .inl (fun _ => 0)))]) (pc' := 137) (cells' := 16) (slots' := 3360) rfl rfl rfl rfl ?_
  refine cn_ald mo_Mo_init hC hla rfl ?_
  refine cn_sip (n := nI 10500) mo_Mo_init hC (by decide) rfl ?_
  refine cn_newi (N := 10500) mo_Mo_init hC rfl wa_int rfl (vle rfl) (vle rfl) (vle rfl) (fun q17 => ?_)
  refine cn_putF (q0 := 0) (k := 25) (ci := 7) (ty := .array .int) mo_Mo_init hC hin rfl rfl rfl rfl rfl rfl (by decide +kernel) rfl rfl (vle rfl) ?_
  refine cn_eq (ws' := [(h0, .inr (7, [.int 0, .int 0, .int 0, .int 0, .ref q1, .ref q2, .ref q3, .ref q4, .int 0, .ref q5, .ref q6, .ref q7, .int 0, .ref q8, .ref q9, .ref q10, .int 0, .int 0, .ref q11, .ref q12, .int 0, .ref q13, .ref q14, .ref q15, .ref q16, .ref q17, .int 0, .null])), (q1, .inl (T.2.2.2, 64, .inl (fun _ => 0))), (q2, .inl (T.1, 64, .inl (fun _ => 0))), (q3, .inl (T.1, 20, .inl (fun _ => 0))), (q4, .inl (T.1, 20, .inl (fun _ => 0))), (q5, .inl (T.1, 120, .inl (fun _ => 0))), (q6, .inl (T.1, 120, .inl (fun _ => 0))), (q7, .inl (T.1, 120, .inl (fun _ => 0))), (q8, .inl (T.1, 240, .inl (fun _ => 0))), (q9, .inl (T.1, 20, .inl (fun _ => 0))), (q10, .inl (T.1, 20, .inl (fun _ => 0))), (q11, .inl (T.1, 20, .inl (fun _ => 0))), (q12, .inl (T.1, 8, .inl (fun _ => 0))), (q13, .inl (T.1, 500, .inl (fun _ => 0))), (q14, .inl (T.1, 500, .inl (fun _ => 0))), (q15, .inl (T.1, 500, .inl (fun _ => 0))), (q16, .inl (T.1, 1024, .inl (fun _ => 0))), (q17, .inl (T.1, 10500, .inl (fun _ => 0)))]) (pc' := 146) (cells' := 17) (slots' := 13860) rfl rfl rfl rfl ?_
  refine cn_ald mo_Mo_init hC hla rfl ?_
  refine cn_sip (n := nI 500) mo_Mo_init hC (by decide) rfl ?_
  refine cn_newi (N := 500) mo_Mo_init hC rfl wa_int rfl (vle rfl) (vle rfl) (vle rfl) (fun q18 => ?_)
  refine cn_putF (q0 := 0) (k := 27) (ci := 7) (ty := .array .int) mo_Mo_init hC hin rfl rfl rfl rfl rfl rfl (by decide +kernel) rfl rfl (vle rfl) ?_
  refine cn_eq (ws' := [(h0, .inr (7, [.int 0, .int 0, .int 0, .int 0, .ref q1, .ref q2, .ref q3, .ref q4, .int 0, .ref q5, .ref q6, .ref q7, .int 0, .ref q8, .ref q9, .ref q10, .int 0, .int 0, .ref q11, .ref q12, .int 0, .ref q13, .ref q14, .ref q15, .ref q16, .ref q17, .int 0, .ref q18])), (q1, .inl (T.2.2.2, 64, .inl (fun _ => 0))), (q2, .inl (T.1, 64, .inl (fun _ => 0))), (q3, .inl (T.1, 20, .inl (fun _ => 0))), (q4, .inl (T.1, 20, .inl (fun _ => 0))), (q5, .inl (T.1, 120, .inl (fun _ => 0))), (q6, .inl (T.1, 120, .inl (fun _ => 0))), (q7, .inl (T.1, 120, .inl (fun _ => 0))), (q8, .inl (T.1, 240, .inl (fun _ => 0))), (q9, .inl (T.1, 20, .inl (fun _ => 0))), (q10, .inl (T.1, 20, .inl (fun _ => 0))), (q11, .inl (T.1, 20, .inl (fun _ => 0))), (q12, .inl (T.1, 8, .inl (fun _ => 0))), (q13, .inl (T.1, 500, .inl (fun _ => 0))), (q14, .inl (T.1, 500, .inl (fun _ => 0))), (q15, .inl (T.1, 500, .inl (fun _ => 0))), (q16, .inl (T.1, 1024, .inl (fun _ => 0))), (q17, .inl (T.1, 10500, .inl (fun _ => 0))), (q18, .inl (T.1, 500, .inl (fun _ => 0)))]) (pc' := 155) (cells' := 18) (slots' := 14360) rfl rfl rfl rfl ?_
  exact cn_ret mo_Mo_init hA hC hr hlk rfl [q1, q2, q3, q4, q5, q6, q7, q8, q9, q10, q11, q12, q13, q14, q15, q16, q17, q18] rfl [0, 1, 2, 3, 4, 5, 6, 7, 8, 9, 10, 11, 12, 13, 14, 15, 16, 17, 18] rfl rfl (vle rfl) (vle rfl)
def mt_Pe_init : mx_B := [(0, .aload_n 0, 1), (1, .invokespecial 3, 3), (4, .aload_n 0, 1), (5, .new 9, 3), (8, .dup, 1), (9, .invokespecial 11, 3), (12, .putfield 12, 3), (15, .aload_n 0, 1), (16, .new 16, 3), (19, .dup, 1), (20, .invokespecial 18, 3), (23, .putfield 19, 3), (26, .aload_n 0, 1), (27, .new 23, 3), (30, .dup, 1), (31, .invokespecial 25, 3), (34, .putfield 26, 3), (37, .aload_n 0, 1), (38, .new 30, 3), (41, .dup, 1), (42, .invokespecial 32, 3), (45, .putfield 33, 3), (48, .aload_n 0, 1), (49, .new 37, 3), (52, .dup, 1), (53, .invokespecial 39, 3), (56, .putfield 40, 3), (59, .return_, 1)]
theorem mt_Pe_init_ok : ∀ x ∈ mt_Pe_init, decode prog_1_method_1_code x.1 = .ok (x.2.1, x.2.2) := by decide +kernel
abbrev mY_Pe_init : mx_Y := (⟨"PegBoards", "<init>", "()V"⟩, prog_1_method_1_code, 1, none, "PegBoards", [], Cond.code ⟨"PegBoards", "<init>", "()V"⟩ prog_1_method_1_code 1 none :: mx_WS)
theorem mo_Pe_init : mx_ok mY_Pe_init mf_Pe mt_Pe_init := ⟨mt_Pe_init_ok, mf_Pe_ok, fun w h => List.mem_cons_of_mem _ h⟩
theorem wz_Pe_init : Cond.instanceMethod ⟨"PegBoards", "<init>", "()V"⟩ ∈ mx_WS := mx_in 62 (by decide +kernel) rfl
theorem wc_Pe_init : Cond.code ⟨"PegBoards", "<init>", "()V"⟩ prog_1_method_1_code 1 none ∈ mx_WS := mx_in 63 (by decide +kernel) rfl
theorem wy_Pe : Cond.initialized "PegBoards" ∈ mx_WS := mx_in 41 (by decide +kernel) rfl
theorem kd_Pe_init : mx_cdb mY_Pe_init 0 = true := by
  simp only [mx_cdb, Bool.and_eq_true, decide_eq_true_eq]
  exact ⟨⟨⟨⟨⟨wy_Pe, wc_Pe_init⟩, by decide +kernel⟩, by decide +kernel⟩, by decide +kernel⟩, by decide +kernel⟩
theorem wx_Pe : Cond.instantiable "PegBoards" 7 ∈ mx_WS := mx_in 60 (by decide +kernel) rfl
theorem wu_Pe : ∀ w ∈ u_ws "PegBoards" fT_Pe 7, w ∈ mx_WS := by
  obtain ⟨C, T0, N, q1, -, -, -, q5, -⟩ := mx_fo_s (List.all_eq_true.mp mf_Pe_ok _ (List.mem_cons_self))
  cases q1
  exact q5
theorem wf_Pe : ∀ j, j < 7 → (parseFieldDescriptor (fT_Pe j).2.2.1).map defaultValue = some (vp_V [.null, .null, .null, .null, .null, .int 0, .int 0] j) := by decide +kernel
theorem wj_Pe : Cond.methodLink "PegBoards" 3 Lib.objectInit ∈ mx_WS := mx_in 64 (by decide +kernel) rfl
theorem wl0_Pe_9 : Cond.classLink "PegBoards" 9 "PegBoards$Board" ∈ mx_WS := mx_in 67 (by decide +kernel) rfl
theorem wl1_Pe_11 : Cond.methodLink "PegBoards" 11 ⟨"PegBoards$Board", "<init>", "()V"⟩ ∈ mx_WS := mx_in 69 (by decide +kernel) rfl
theorem wl0_Pe_16 : Cond.classLink "PegBoards" 16 "PegBoards$Jumps" ∈ mx_WS := mx_in 96 (by decide +kernel) rfl
theorem wl1_Pe_18 : Cond.methodLinkNest "PegBoards" 18 ⟨"PegBoards$Jumps", "<init>", "()V"⟩ "PegBoards" ∈ mx_NW := mx_inN 98 (by decide +kernel) rfl
theorem wl0_Pe_23 : Cond.classLink "PegBoards" 23 "PegBoards$Symmetries" ∈ mx_WS := mx_in 121 (by decide +kernel) rfl
theorem wl1_Pe_25 : Cond.methodLinkNest "PegBoards" 25 ⟨"PegBoards$Symmetries", "<init>", "()V"⟩ "PegBoards" ∈ mx_NW := mx_inN 123 (by decide +kernel) rfl
theorem wl0_Pe_30 : Cond.classLink "PegBoards" 30 "PegBoards$Reaching" ∈ mx_WS := mx_in 145 (by decide +kernel) rfl
theorem wl1_Pe_32 : Cond.methodLinkNest "PegBoards" 32 ⟨"PegBoards$Reaching", "<init>", "()V"⟩ "PegBoards" ∈ mx_NW := mx_inN 147 (by decide +kernel) rfl
theorem wl0_Pe_37 : Cond.classLink "PegBoards" 37 "PegBoards$Weights" ∈ mx_WS := mx_in 189 (by decide +kernel) rfl
theorem wl1_Pe_39 : Cond.methodLinkNest "PegBoards" 39 ⟨"PegBoards$Weights", "<init>", "()V"⟩ "PegBoards" ∈ mx_NW := mx_inN 191 (by decide +kernel) rfl
def co_Pe (T : mx_T) (h : Nat) (r : List Nat) : va_W := [(h, .inr (6, [.ref (r.getD 0 0), .ref (r.getD 4 0), .ref (r.getD 10 0), .ref (r.getD 14 0), .ref (r.getD 25 0), .int 0, .int 0])), ((r.getD 0 0), .inr (0, [.ref (r.getD 1 0), .ref (r.getD 2 0), .ref (r.getD 3 0), .int 0, .int 0, .int 0])), ((r.getD 2 0), .inl (T.1, 20, .inl (fun _ => 0))), ((r.getD 3 0), .inl (T.1, 20, .inl (fun _ => 0))), ((r.getD 1 0), .inl (T.1, 64, .inl (fun j => if j < 64 then -1 else 0))), ((r.getD 4 0), .inr (2, [.ref (r.getD 5 0), .ref (r.getD 6 0), .ref (r.getD 7 0), .ref (r.getD 8 0), .ref (r.getD 9 0), .int 0])), ((r.getD 5 0), .inl (T.1, 120, .inl (fun _ => 0))), ((r.getD 6 0), .inl (T.1, 120, .inl (fun _ => 0))), ((r.getD 7 0), .inl (T.1, 120, .inl (fun _ => 0))), ((r.getD 8 0), .inl (T.1, 120, .inl (fun _ => 0))), ((r.getD 9 0), .inl (T.1, 120, .inl (fun _ => 0))), ((r.getD 10 0), .inr (4, [.ref (r.getD 11 0), .ref (r.getD 12 0), .ref (r.getD 13 0), .int 0, .int 0])), ((r.getD 11 0), .inl (T.2.1, 12, .inr (.inr (.inr (.inr (fun j => if j < 12 then some ((r.getD 11 0) + 1 + j) else none)))))), (((r.getD 11 0) + 1 + 0), .inl (T.1, 20, .inl (fun _ => 0))), (((r.getD 11 0) + 1 + 1), .inl (T.1, 20, .inl (fun _ => 0))), (((r.getD 11 0) + 1 + 2), .inl (T.1, 20, .inl (fun _ => 0))), (((r.getD 11 0) + 1 + 3), .inl (T.1, 20, .inl (fun _ => 0))), (((r.getD 11 0) + 1 + 4), .inl (T.1, 20, .inl (fun _ => 0))), (((r.getD 11 0) + 1 + 5), .inl (T.1, 20, .inl (fun _ => 0))), (((r.getD 11 0) + 1 + 6), .inl (T.1, 20, .inl (fun _ => 0))), (((r.getD 11 0) + 1 + 7), .inl (T.1, 20, .inl (fun _ => 0))), (((r.getD 11 0) + 1 + 8), .inl (T.1, 20, .inl (fun _ => 0))), (((r.getD 11 0) + 1 + 9), .inl (T.1, 20, .inl (fun _ => 0))), (((r.getD 11 0) + 1 + 10), .inl (T.1, 20, .inl (fun _ => 0))), (((r.getD 11 0) + 1 + 11), .inl (T.1, 20, .inl (fun _ => 0))), ((r.getD 12 0), .inl (T.1, 20, .inl (fun _ => 0))), ((r.getD 13 0), .inl (T.1, 20, .inl (fun _ => 0))), ((r.getD 14 0), .inr (3, [.ref (r.getD 15 0), .ref (r.getD 18 0), .ref (r.getD 21 0), .ref (r.getD 22 0), .ref (r.getD 23 0), .ref (r.getD 24 0), .int 0])), ((r.getD 15 0), .inr (1, [.ref (r.getD 16 0), .ref (r.getD 17 0), .int 0])), ((r.getD 16 0), .inl (T.1, 500, .inl (fun _ => 0))), ((r.getD 17 0), .inl (T.1, 1024, .inl (fun _ => 0))), ((r.getD 18 0), .inr (1, [.ref (r.getD 19 0), .ref (r.getD 20 0), .int 0])), ((r.getD 19 0), .inl (T.1, 500, .inl (fun _ => 0))), ((r.getD 20 0), .inl (T.1, 1024, .inl (fun _ => 0))), ((r.getD 21 0), .inl (T.1, 500, .inl (fun _ => 0))), ((r.getD 22 0), .inl (T.1, 500, .inl (fun _ => 0))), ((r.getD 23 0), .inl (T.1, 500, .inl (fun _ => 0))), ((r.getD 24 0), .inl (T.1, 500, .inl (fun _ => 0))), ((r.getD 25 0), .inr (5, [.ref (r.getD 26 0), .ref (r.getD 27 0)])), ((r.getD 26 0), .inl (T.1, 20, .inl (fun _ => 0))), ((r.getD 27 0), .inl (T.1, 8, .inl (fun _ => 0)))]
set_option maxHeartbeats 4000000 in
theorem ci_Pe {l : Launch} (hl : l.stackTraces = false) : cn_Ct l mY_Pe_init 3 6 [.null, .null, .null, .null, .null, .int 0, .int 0] 40 6104 28 co_Pe := by
  refine cn_of ⟨by decide +kernel, rfl, rfl, rfl, rfl⟩ rfl ?_
  intro p e s m args below meth c D T adS A h0 la hA hC hin hr hlk hsz hla hexc
  refine cn_ald mo_Pe_init hC hla rfl ?_
  refine cn_obj mo_Pe_init hC rfl wj_Pe wo_i wo_c hsz (vle rfl) (vle rfl) ?_
  refine cn_ald mo_Pe_init hC hla rfl ?_
  refine cn_new (ci := 0) (fs := [.null, .null, .null, .int 0, .int 0, .int 0]) mo_Pe_init hC rfl wl0_Pe_9 wx_Bo wy_Bo rfl wu_Bo wf_Bo (vle rfl) (vle rfl) (fun q1 => ?_)
  refine cn_dup mo_Pe_init hC rfl ?_
  refine cn_call (k := 1) (wr := [(h0, .inr (6, [.null, .null, .null, .null, .null, .int 0, .int 0]))]) mo_Pe_init hC (ci_Bo hl) rfl (Or.inr wl1_Pe_11) wz_Bo_init kd_Bo_init rfl rfl rfl [0] rfl rfl rfl (by decide) hsz (by rfl) (vle rfl) (vle rfl) (vle rfl) (vle rfl) (fun r2 hr2 => ?_)
  refine cn_putF (q0 := 0) (k := 0) (ci := 6) (ty := .object "PegBoards$Board") mo_Pe_init hC hin rfl rfl rfl rfl rfl rfl (by decide +kernel) rfl rfl (vle rfl) ?_
  refine cn_eq (ws' := [(h0, .inr (6, [.ref q1, .null, .null, .null, .null, .int 0, .int 0])), (q1, .inr (0, [.ref (r2.getD 0 0), .ref (r2.getD 1 0), .ref (r2.getD 2 0), .int 0, .int 0, .int 0])), ((r2.getD 1 0), .inl (T.1, 20, .inl (fun _ => 0))), ((r2.getD 2 0), .inl (T.1, 20, .inl (fun _ => 0))), ((r2.getD 0 0), .inl (T.1, 64, .inl (fun j => if j < 64 then -1 else 0)))]) (pc' := 15) (cells' := 4) (slots' := 110) rfl rfl rfl rfl ?_
  refine cn_ald mo_Pe_init hC hla rfl ?_
  refine cn_new (ci := 2) (fs := [.null, .null, .null, .null, .null, .int 0]) mo_Pe_init hC rfl wl0_Pe_16 wx_Ju wy_Ju rfl wu_Ju wf_Ju (vle rfl) (vle rfl) (fun q3 => ?_)
  refine cn_dup mo_Pe_init hC rfl ?_
  refine cn_call (k := 5) (wr := [(h0, .inr (6, [.ref q1, .null, .null, .null, .null, .int 0, .int 0])), (q1, .inr (0, [.ref (r2.getD 0 0), .ref (r2.getD 1 0), .ref (r2.getD 2 0), .int 0, .int 0, .int 0])), ((r2.getD 1 0), .inl (T.1, 20, .inl (fun _ => 0))), ((r2.getD 2 0), .inl (T.1, 20, .inl (fun _ => 0))), ((r2.getD 0 0), .inl (T.1, 64, .inl (fun j => if j < 64 then -1 else 0)))]) mo_Pe_init hC (ci_Ju hl) rfl (Or.inl wl1_Pe_18) wz_Ju_init kd_Ju_init rfl rfl rfl [0, 1, 2, 3, 4] rfl rfl rfl (by decide) hsz (by rfl) (vle rfl) (vle rfl) (vle rfl) (vle rfl) (fun r4 hr4 => ?_)
  refine cn_putF (q0 := 0) (k := 1) (ci := 6) (ty := .object "PegBoards$Jumps") mo_Pe_init hC hin rfl rfl rfl rfl rfl rfl (by decide +kernel) rfl rfl (vle rfl) ?_
  refine cn_eq (ws' := [(h0, .inr (6, [.ref q1, .ref q3, .null, .null, .null, .int 0, .int 0])), (q1, .inr (0, [.ref (r2.getD 0 0), .ref (r2.getD 1 0), .ref (r2.getD 2 0), .int 0, .int 0, .int 0])), ((r2.getD 1 0), .inl (T.1, 20, .inl (fun _ => 0))), ((r2.getD 2 0), .inl (T.1, 20, .inl (fun _ => 0))), ((r2.getD 0 0), .inl (T.1, 64, .inl (fun j => if j < 64 then -1 else 0))), (q3, .inr (2, [.ref (r4.getD 0 0), .ref (r4.getD 1 0), .ref (r4.getD 2 0), .ref (r4.getD 3 0), .ref (r4.getD 4 0), .int 0])), ((r4.getD 0 0), .inl (T.1, 120, .inl (fun _ => 0))), ((r4.getD 1 0), .inl (T.1, 120, .inl (fun _ => 0))), ((r4.getD 2 0), .inl (T.1, 120, .inl (fun _ => 0))), ((r4.getD 3 0), .inl (T.1, 120, .inl (fun _ => 0))), ((r4.getD 4 0), .inl (T.1, 120, .inl (fun _ => 0)))]) (pc' := 26) (cells' := 10) (slots' := 716) rfl rfl rfl rfl ?_
  refine cn_ald mo_Pe_init hC hla rfl ?_
  refine cn_new (ci := 4) (fs := [.null, .null, .null, .int 0, .int 0]) mo_Pe_init hC rfl wl0_Pe_23 wx_Sy wy_Sy rfl wu_Sy wf_Sy (vle rfl) (vle rfl) (fun q5 => ?_)
  refine cn_dup mo_Pe_init hC rfl ?_
  refine cn_call (k := 11) (wr := [(h0, .inr (6, [.ref q1, .ref q3, .null, .null, .null, .int 0, .int 0])), (q1, .inr (0, [.ref (r2.getD 0 0), .ref (r2.getD 1 0), .ref (r2.getD 2 0), .int 0, .int 0, .int 0])), ((r2.getD 1 0), .inl (T.1, 20, .inl (fun _ => 0))), ((r2.getD 2 0), .inl (T.1, 20, .inl (fun _ => 0))), ((r2.getD 0 0), .inl (T.1, 64, .inl (fun j => if j < 64 then -1 else 0))), (q3, .inr (2, [.ref (r4.getD 0 0), .ref (r4.getD 1 0), .ref (r4.getD 2 0), .ref (r4.getD 3 0), .ref (r4.getD 4 0), .int 0])), ((r4.getD 0 0), .inl (T.1, 120, .inl (fun _ => 0))), ((r4.getD 1 0), .inl (T.1, 120, .inl (fun _ => 0))), ((r4.getD 2 0), .inl (T.1, 120, .inl (fun _ => 0))), ((r4.getD 3 0), .inl (T.1, 120, .inl (fun _ => 0))), ((r4.getD 4 0), .inl (T.1, 120, .inl (fun _ => 0)))]) mo_Pe_init hC (ci_Sy hl) rfl (Or.inl wl1_Pe_25) wz_Sy_init kd_Sy_init rfl rfl rfl [0, 1, 2, 3, 4, 5, 6, 7, 8, 9, 10] rfl rfl rfl (by decide) hsz (by rfl) (vle rfl) (vle rfl) (vle rfl) (vle rfl) (fun r6 hr6 => ?_)
  refine cn_putF (q0 := 0) (k := 2) (ci := 6) (ty := .object "PegBoards$Symmetries") mo_Pe_init hC hin rfl rfl rfl rfl rfl rfl (by decide +kernel) rfl rfl (vle rfl) ?_
  refine cn_eq (ws' := [(h0, .inr (6, [.ref q1, .ref q3, .ref q5, .null, .null, .int 0, .int 0])), (q1, .inr (0, [.ref (r2.getD 0 0), .ref (r2.getD 1 0), .ref (r2.getD 2 0), .int 0, .int 0, .int 0])), ((r2.getD 1 0), .inl (T.1, 20, .inl (fun _ => 0))), ((r2.getD 2 0), .inl (T.1, 20, .inl (fun _ => 0))), ((r2.getD 0 0), .inl (T.1, 64, .inl (fun j => if j < 64 then -1 else 0))), (q3, .inr (2, [.ref (r4.getD 0 0), .ref (r4.getD 1 0), .ref (r4.getD 2 0), .ref (r4.getD 3 0), .ref (r4.getD 4 0), .int 0])), ((r4.getD 0 0), .inl (T.1, 120, .inl (fun _ => 0))), ((r4.getD 1 0), .inl (T.1, 120, .inl (fun _ => 0))), ((r4.getD 2 0), .inl (T.1, 120, .inl (fun _ => 0))), ((r4.getD 3 0), .inl (T.1, 120, .inl (fun _ => 0))), ((r4.getD 4 0), .inl (T.1, 120, .inl (fun _ => 0))), (q5, .inr (4, [.ref (r6.getD 0 0), .ref (r6.getD 1 0), .ref (r6.getD 2 0), .int 0, .int 0])), ((r6.getD 0 0), .inl (T.2.1, 12, .inr (.inr (.inr (.inr (fun j => if j < 12 then some ((r6.getD 0 0) + 1 + j) else none)))))), (((r6.getD 0 0) + 1 + 0), .inl (T.1, 20, .inl (fun _ => 0))), (((r6.getD 0 0) + 1 + 1), .inl (T.1, 20, .inl (fun _ => 0))), (((r6.getD 0 0) + 1 + 2), .inl (T.1, 20, .inl (fun _ => 0))), (((r6.getD 0 0) + 1 + 3), .inl (T.1, 20, .inl (fun _ => 0))), (((r6.getD 0 0) + 1 + 4), .inl (T.1, 20, .inl (fun _ => 0))), (((r6.getD 0 0) + 1 + 5), .inl (T.1, 20, .inl (fun _ => 0))), (((r6.getD 0 0) + 1 + 6), .inl (T.1, 20, .inl (fun _ => 0))), (((r6.getD 0 0) + 1 + 7), .inl (T.1, 20, .inl (fun _ => 0))), (((r6.getD 0 0) + 1 + 8), .inl (T.1, 20, .inl (fun _ => 0))), (((r6.getD 0 0) + 1 + 9), .inl (T.1, 20, .inl (fun _ => 0))), (((r6.getD 0 0) + 1 + 10), .inl (T.1, 20, .inl (fun _ => 0))), (((r6.getD 0 0) + 1 + 11), .inl (T.1, 20, .inl (fun _ => 0))), ((r6.getD 1 0), .inl (T.1, 20, .inl (fun _ => 0))), ((r6.getD 2 0), .inl (T.1, 20, .inl (fun _ => 0)))]) (pc' := 37) (cells' := 26) (slots' := 1013) rfl rfl rfl rfl ?_
  refine cn_ald mo_Pe_init hC hla rfl ?_
  refine cn_new (ci := 3) (fs := [.null, .null, .null, .null, .null, .null, .int 0]) mo_Pe_init hC rfl wl0_Pe_30 wx_Re wy_Re rfl wu_Re wf_Re (vle rfl) (vle rfl) (fun q7 => ?_)
  refine cn_dup mo_Pe_init hC rfl ?_
  refine cn_call (k := 27) (wr := [(h0, .inr (6, [.ref q1, .ref q3, .ref q5, .null, .null, .int 0, .int 0])), (q1, .inr (0, [.ref (r2.getD 0 0), .ref (r2.getD 1 0), .ref (r2.getD 2 0), .int 0, .int 0, .int 0])), ((r2.getD 1 0), .inl (T.1, 20, .inl (fun _ => 0))), ((r2.getD 2 0), .inl (T.1, 20, .inl (fun _ => 0))), ((r2.getD 0 0), .inl (T.1, 64, .inl (fun j => if j < 64 then -1 else 0))), (q3, .inr (2, [.ref (r4.getD 0 0), .ref (r4.getD 1 0), .ref (r4.getD 2 0), .ref (r4.getD 3 0), .ref (r4.getD 4 0), .int 0])), ((r4.getD 0 0), .inl (T.1, 120, .inl (fun _ => 0))), ((r4.getD 1 0), .inl (T.1, 120, .inl (fun _ => 0))), ((r4.getD 2 0), .inl (T.1, 120, .inl (fun _ => 0))), ((r4.getD 3 0), .inl (T.1, 120, .inl (fun _ => 0))), ((r4.getD 4 0), .inl (T.1, 120, .inl (fun _ => 0))), (q5, .inr (4, [.ref (r6.getD 0 0), .ref (r6.getD 1 0), .ref (r6.getD 2 0), .int 0, .int 0])), ((r6.getD 0 0), .inl (T.2.1, 12, .inr (.inr (.inr (.inr (fun j => if j < 12 then some ((r6.getD 0 0) + 1 + j) else none)))))), (((r6.getD 0 0) + 1 + 0), .inl (T.1, 20, .inl (fun _ => 0))), (((r6.getD 0 0) + 1 + 1), .inl (T.1, 20, .inl (fun _ => 0))), (((r6.getD 0 0) + 1 + 2), .inl (T.1, 20, .inl (fun _ => 0))), (((r6.getD 0 0) + 1 + 3), .inl (T.1, 20, .inl (fun _ => 0))), (((r6.getD 0 0) + 1 + 4), .inl (T.1, 20, .inl (fun _ => 0))), (((r6.getD 0 0) + 1 + 5), .inl (T.1, 20, .inl (fun _ => 0))), (((r6.getD 0 0) + 1 + 6), .inl (T.1, 20, .inl (fun _ => 0))), (((r6.getD 0 0) + 1 + 7), .inl (T.1, 20, .inl (fun _ => 0))), (((r6.getD 0 0) + 1 + 8), .inl (T.1, 20, .inl (fun _ => 0))), (((r6.getD 0 0) + 1 + 9), .inl (T.1, 20, .inl (fun _ => 0))), (((r6.getD 0 0) + 1 + 10), .inl (T.1, 20, .inl (fun _ => 0))), (((r6.getD 0 0) + 1 + 11), .inl (T.1, 20, .inl (fun _ => 0))), ((r6.getD 1 0), .inl (T.1, 20, .inl (fun _ => 0))), ((r6.getD 2 0), .inl (T.1, 20, .inl (fun _ => 0)))]) mo_Pe_init hC (ci_Re hl) rfl (Or.inl wl1_Pe_32) wz_Re_init kd_Re_init rfl rfl rfl [0, 1, 2, 3, 4, 5, 6, 7, 8, 9, 10, 11, 12, 13, 14, 15, 16, 17, 18, 19, 20, 21, 22, 23, 24, 25, 26] rfl rfl rfl (by decide) hsz (by rfl) (vle rfl) (vle rfl) (vle rfl) (vle rfl) (fun r8 hr8 => ?_)
  refine cn_putF (q0 := 0) (k := 3) (ci := 6) (ty := .object "PegBoards$Reaching") mo_Pe_init hC hin rfl rfl rfl rfl rfl rfl (by decide +kernel) rfl rfl (vle rfl) ?_
  refine cn_eq (ws' := [(h0, .inr (6, [.ref q1, .ref q3, .ref q5, .ref q7, .null, .int 0, .int 0])), (q1, .inr (0, [.ref (r2.getD 0 0), .ref (r2.getD 1 0), .ref (r2.getD 2 0), .int 0, .int 0, .int 0])), ((r2.getD 1 0), .inl (T.1, 20, .inl (fun _ => 0))), ((r2.getD 2 0), .inl (T.1, 20, .inl (fun _ => 0))), ((r2.getD 0 0), .inl (T.1, 64, .inl (fun j => if j < 64 then -1 else 0))), (q3, .inr (2, [.ref (r4.getD 0 0), .ref (r4.getD 1 0), .ref (r4.getD 2 0), .ref (r4.getD 3 0), .ref (r4.getD 4 0), .int 0])), ((r4.getD 0 0), .inl (T.1, 120, .inl (fun _ => 0))), ((r4.getD 1 0), .inl (T.1, 120, .inl (fun _ => 0))), ((r4.getD 2 0), .inl (T.1, 120, .inl (fun _ => 0))), ((r4.getD 3 0), .inl (T.1, 120, .inl (fun _ => 0))), ((r4.getD 4 0), .inl (T.1, 120, .inl (fun _ => 0))), (q5, .inr (4, [.ref (r6.getD 0 0), .ref (r6.getD 1 0), .ref (r6.getD 2 0), .int 0, .int 0])), ((r6.getD 0 0), .inl (T.2.1, 12, .inr (.inr (.inr (.inr (fun j => if j < 12 then some ((r6.getD 0 0) + 1 + j) else none)))))), (((r6.getD 0 0) + 1 + 0), .inl (T.1, 20, .inl (fun _ => 0))), (((r6.getD 0 0) + 1 + 1), .inl (T.1, 20, .inl (fun _ => 0))), (((r6.getD 0 0) + 1 + 2), .inl (T.1, 20, .inl (fun _ => 0))), (((r6.getD 0 0) + 1 + 3), .inl (T.1, 20, .inl (fun _ => 0))), (((r6.getD 0 0) + 1 + 4), .inl (T.1, 20, .inl (fun _ => 0))), (((r6.getD 0 0) + 1 + 5), .inl (T.1, 20, .inl (fun _ => 0))), (((r6.getD 0 0) + 1 + 6), .inl (T.1, 20, .inl (fun _ => 0))), (((r6.getD 0 0) + 1 + 7), .inl (T.1, 20, .inl (fun _ => 0))), (((r6.getD 0 0) + 1 + 8), .inl (T.1, 20, .inl (fun _ => 0))), (((r6.getD 0 0) + 1 + 9), .inl (T.1, 20, .inl (fun _ => 0))), (((r6.getD 0 0) + 1 + 10), .inl (T.1, 20, .inl (fun _ => 0))), (((r6.getD 0 0) + 1 + 11), .inl (T.1, 20, .inl (fun _ => 0))), ((r6.getD 1 0), .inl (T.1, 20, .inl (fun _ => 0))), ((r6.getD 2 0), .inl (T.1, 20, .inl (fun _ => 0))), (q7, .inr (3, [.ref (r8.getD 0 0), .ref (r8.getD 3 0), .ref (r8.getD 6 0), .ref (r8.getD 7 0), .ref (r8.getD 8 0), .ref (r8.getD 9 0), .int 0])), ((r8.getD 0 0), .inr (1, [.ref (r8.getD 1 0), .ref (r8.getD 2 0), .int 0])), ((r8.getD 1 0), .inl (T.1, 500, .inl (fun _ => 0))), ((r8.getD 2 0), .inl (T.1, 1024, .inl (fun _ => 0))), ((r8.getD 3 0), .inr (1, [.ref (r8.getD 4 0), .ref (r8.getD 5 0), .int 0])), ((r8.getD 4 0), .inl (T.1, 500, .inl (fun _ => 0))), ((r8.getD 5 0), .inl (T.1, 1024, .inl (fun _ => 0))), ((r8.getD 6 0), .inl (T.1, 500, .inl (fun _ => 0))), ((r8.getD 7 0), .inl (T.1, 500, .inl (fun _ => 0))), ((r8.getD 8 0), .inl (T.1, 500, .inl (fun _ => 0))), ((r8.getD 9 0), .inl (T.1, 500, .inl (fun _ => 0)))]) (pc' := 48) (cells' := 37) (slots' := 6074) rfl rfl rfl rfl ?_
  refine cn_ald mo_Pe_init hC hla rfl ?_
  refine cn_new (ci := 5) (fs := [.null, .null]) mo_Pe_init hC rfl wl0_Pe_37 wx_We wy_We rfl wu_We wf_We (vle rfl) (vle rfl) (fun q9 => ?_)
  refine cn_dup mo_Pe_init hC rfl ?_
  refine cn_call (k := 38) (wr := [(h0, .inr (6, [.ref q1, .ref q3, .ref q5, .ref q7, .null, .int 0, .int 0])), (q1, .inr (0, [.ref (r2.getD 0 0), .ref (r2.getD 1 0), .ref (r2.getD 2 0), .int 0, .int 0, .int 0])), ((r2.getD 1 0), .inl (T.1, 20, .inl (fun _ => 0))), ((r2.getD 2 0), .inl (T.1, 20, .inl (fun _ => 0))), ((r2.getD 0 0), .inl (T.1, 64, .inl (fun j => if j < 64 then -1 else 0))), (q3, .inr (2, [.ref (r4.getD 0 0), .ref (r4.getD 1 0), .ref (r4.getD 2 0), .ref (r4.getD 3 0), .ref (r4.getD 4 0), .int 0])), ((r4.getD 0 0), .inl (T.1, 120, .inl (fun _ => 0))), ((r4.getD 1 0), .inl (T.1, 120, .inl (fun _ => 0))), ((r4.getD 2 0), .inl (T.1, 120, .inl (fun _ => 0))), ((r4.getD 3 0), .inl (T.1, 120, .inl (fun _ => 0))), ((r4.getD 4 0), .inl (T.1, 120, .inl (fun _ => 0))), (q5, .inr (4, [.ref (r6.getD 0 0), .ref (r6.getD 1 0), .ref (r6.getD 2 0), .int 0, .int 0])), ((r6.getD 0 0), .inl (T.2.1, 12, .inr (.inr (.inr (.inr (fun j => if j < 12 then some ((r6.getD 0 0) + 1 + j) else none)))))), (((r6.getD 0 0) + 1 + 0), .inl (T.1, 20, .inl (fun _ => 0))), (((r6.getD 0 0) + 1 + 1), .inl (T.1, 20, .inl (fun _ => 0))), (((r6.getD 0 0) + 1 + 2), .inl (T.1, 20, .inl (fun _ => 0))), (((r6.getD 0 0) + 1 + 3), .inl (T.1, 20, .inl (fun _ => 0))), (((r6.getD 0 0) + 1 + 4), .inl (T.1, 20, .inl (fun _ => 0))), (((r6.getD 0 0) + 1 + 5), .inl (T.1, 20, .inl (fun _ => 0))), (((r6.getD 0 0) + 1 + 6), .inl (T.1, 20, .inl (fun _ => 0))), (((r6.getD 0 0) + 1 + 7), .inl (T.1, 20, .inl (fun _ => 0))), (((r6.getD 0 0) + 1 + 8), .inl (T.1, 20, .inl (fun _ => 0))), (((r6.getD 0 0) + 1 + 9), .inl (T.1, 20, .inl (fun _ => 0))), (((r6.getD 0 0) + 1 + 10), .inl (T.1, 20, .inl (fun _ => 0))), (((r6.getD 0 0) + 1 + 11), .inl (T.1, 20, .inl (fun _ => 0))), ((r6.getD 1 0), .inl (T.1, 20, .inl (fun _ => 0))), ((r6.getD 2 0), .inl (T.1, 20, .inl (fun _ => 0))), (q7, .inr (3, [.ref (r8.getD 0 0), .ref (r8.getD 3 0), .ref (r8.getD 6 0), .ref (r8.getD 7 0), .ref (r8.getD 8 0), .ref (r8.getD 9 0), .int 0])), ((r8.getD 0 0), .inr (1, [.ref (r8.getD 1 0), .ref (r8.getD 2 0), .int 0])), ((r8.getD 1 0), .inl (T.1, 500, .inl (fun _ => 0))), ((r8.getD 2 0), .inl (T.1, 1024, .inl (fun _ => 0))), ((r8.getD 3 0), .inr (1, [.ref (r8.getD 4 0), .ref (r8.getD 5 0), .int 0])), ((r8.getD 4 0), .inl (T.1, 500, .inl (fun _ => 0))), ((r8.getD 5 0), .inl (T.1, 1024, .inl (fun _ => 0))), ((r8.getD 6 0), .inl (T.1, 500, .inl (fun _ => 0))), ((r8.getD 7 0), .inl (T.1, 500, .inl (fun _ => 0))), ((r8.getD 8 0), .inl (T.1, 500, .inl (fun _ => 0))), ((r8.getD 9 0), .inl (T.1, 500, .inl (fun _ => 0)))]) mo_Pe_init hC (ci_We hl) rfl (Or.inl wl1_Pe_39) wz_We_init kd_We_init rfl rfl rfl [0, 1, 2, 3, 4, 5, 6, 7, 8, 9, 10, 11, 12, 13, 14, 15, 16, 17, 18, 19, 20, 21, 22, 23, 24, 25, 26, 27, 28, 29, 30, 31, 32, 33, 34, 35, 36, 37] rfl rfl rfl (by decide) hsz (by rfl) (vle rfl) (vle rfl) (vle rfl) (vle rfl) (fun r10 hr10 => ?_)
  refine cn_putF (q0 := 0) (k := 4) (ci := 6) (ty := .object "PegBoards$Weights") mo_Pe_init hC hin rfl rfl rfl rfl rfl rfl (by decide +kernel) rfl rfl (vle rfl) ?_
  refine cn_eq (ws' := [(h0, .inr (6, [.ref q1, .ref q3, .ref q5, .ref q7, .ref q9, .int 0, .int 0])), (q1, .inr (0, [.ref (r2.getD 0 0), .ref (r2.getD 1 0), .ref (r2.getD 2 0), .int 0, .int 0, .int 0])), ((r2.getD 1 0), .inl (T.1, 20, .inl (fun _ => 0))), ((r2.getD 2 0), .inl (T.1, 20, .inl (fun _ => 0))), ((r2.getD 0 0), .inl (T.1, 64, .inl (fun j => if j < 64 then -1 else 0))), (q3, .inr (2, [.ref (r4.getD 0 0), .ref (r4.getD 1 0), .ref (r4.getD 2 0), .ref (r4.getD 3 0), .ref (r4.getD 4 0), .int 0])), ((r4.getD 0 0), .inl (T.1, 120, .inl (fun _ => 0))), ((r4.getD 1 0), .inl (T.1, 120, .inl (fun _ => 0))), ((r4.getD 2 0), .inl (T.1, 120, .inl (fun _ => 0))), ((r4.getD 3 0), .inl (T.1, 120, .inl (fun _ => 0))), ((r4.getD 4 0), .inl (T.1, 120, .inl (fun _ => 0))), (q5, .inr (4, [.ref (r6.getD 0 0), .ref (r6.getD 1 0), .ref (r6.getD 2 0), .int 0, .int 0])), ((r6.getD 0 0), .inl (T.2.1, 12, .inr (.inr (.inr (.inr (fun j => if j < 12 then some ((r6.getD 0 0) + 1 + j) else none)))))), (((r6.getD 0 0) + 1 + 0), .inl (T.1, 20, .inl (fun _ => 0))), (((r6.getD 0 0) + 1 + 1), .inl (T.1, 20, .inl (fun _ => 0))), (((r6.getD 0 0) + 1 + 2), .inl (T.1, 20, .inl (fun _ => 0))), (((r6.getD 0 0) + 1 + 3), .inl (T.1, 20, .inl (fun _ => 0))), (((r6.getD 0 0) + 1 + 4), .inl (T.1, 20, .inl (fun _ => 0))), (((r6.getD 0 0) + 1 + 5), .inl (T.1, 20, .inl (fun _ => 0))), (((r6.getD 0 0) + 1 + 6), .inl (T.1, 20, .inl (fun _ => 0))), (((r6.getD 0 0) + 1 + 7), .inl (T.1, 20, .inl (fun _ => 0))), (((r6.getD 0 0) + 1 + 8), .inl (T.1, 20, .inl (fun _ => 0))), (((r6.getD 0 0) + 1 + 9), .inl (T.1, 20, .inl (fun _ => 0))), (((r6.getD 0 0) + 1 + 10), .inl (T.1, 20, .inl (fun _ => 0))), (((r6.getD 0 0) + 1 + 11), .inl (T.1, 20, .inl (fun _ => 0))), ((r6.getD 1 0), .inl (T.1, 20, .inl (fun _ => 0))), ((r6.getD 2 0), .inl (T.1, 20, .inl (fun _ => 0))), (q7, .inr (3, [.ref (r8.getD 0 0), .ref (r8.getD 3 0), .ref (r8.getD 6 0), .ref (r8.getD 7 0), .ref (r8.getD 8 0), .ref (r8.getD 9 0), .int 0])), ((r8.getD 0 0), .inr (1, [.ref (r8.getD 1 0), .ref (r8.getD 2 0), .int 0])), ((r8.getD 1 0), .inl (T.1, 500, .inl (fun _ => 0))), ((r8.getD 2 0), .inl (T.1, 1024, .inl (fun _ => 0))), ((r8.getD 3 0), .inr (1, [.ref (r8.getD 4 0), .ref (r8.getD 5 0), .int 0])), ((r8.getD 4 0), .inl (T.1, 500, .inl (fun _ => 0))), ((r8.getD 5 0), .inl (T.1, 1024, .inl (fun _ => 0))), ((r8.getD 6 0), .inl (T.1, 500, .inl (fun _ => 0))), ((r8.getD 7 0), .inl (T.1, 500, .inl (fun _ => 0))), ((r8.getD 8 0), .inl (T.1, 500, .inl (fun _ => 0))), ((r8.getD 9 0), .inl (T.1, 500, .inl (fun _ => 0))), (q9, .inr (5, [.ref (r10.getD 0 0), .ref (r10.getD 1 0)])), ((r10.getD 0 0), .inl (T.1, 20, .inl (fun _ => 0))), ((r10.getD 1 0), .inl (T.1, 8, .inl (fun _ => 0)))]) (pc' := 59) (cells' := 40) (slots' := 6104) rfl rfl rfl rfl ?_
  exact cn_ret mo_Pe_init hA hC hr hlk rfl [q1, (r2.getD 0 0), (r2.getD 1 0), (r2.getD 2 0), q3, (r4.getD 0 0), (r4.getD 1 0), (r4.getD 2 0), (r4.getD 3 0), (r4.getD 4 0), q5, (r6.getD 0 0), (r6.getD 1 0), (r6.getD 2 0), q7, (r8.getD 0 0), (r8.getD 1 0), (r8.getD 2 0), (r8.getD 3 0), (r8.getD 4 0), (r8.getD 5 0), (r8.getD 6 0), (r8.getD 7 0), (r8.getD 8 0), (r8.getD 9 0), q9, (r10.getD 0 0), (r10.getD 1 0)] rfl [0, 1, 2, 3, 4, 5, 6, 7, 8, 9, 10, 11, 12, 13, 14, 15, 16, 17, 18, 19, 20, 21, 22, 23, 24, 25, 26, 27, 28, 29, 30, 31, 32, 33, 34, 35, 36, 37, 38, 39, 40] rfl rfl (vle rfl) (vle rfl)
end CI
