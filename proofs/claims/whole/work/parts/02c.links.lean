/-! Printed by wip/whole/gen.py: what the call sites ask of the words. -/
theorem mx_in {w : Cond} (k : Nat) (h : lw_tbl[k]? = some w) (hg : goodWord w = true) : w ∈ mx_WS := List.mem_filter.mpr ⟨List.mem_of_getElem? h, hg⟩
theorem mx_inN {w : Cond} (k : Nat) (h : lw_tbl[k]? = some w) (hg : mx_nk w = true) : w ∈ mx_NW := List.mem_filter.mpr ⟨List.mem_of_getElem? h, hg⟩
theorem wi_Ar : Cond.initialized "java/util/Arrays" ∈ mx_WS := mx_in 43 (by decide +kernel) rfl
theorem wc_Ar_fill : Cond.code ⟨"java/util/Arrays", "fill", "([II)V"⟩ prog_20_method_103_code 4 none ∈ mx_WS := mx_in 75 (by decide +kernel) rfl
theorem kd_Ar_fill : mx_cdb mY_Ar_fill 2 = true := by
  simp only [mx_cdb, Bool.and_eq_true, decide_eq_true_eq]
  exact ⟨⟨⟨⟨⟨wi_Ar, wc_Ar_fill⟩, by decide +kernel⟩, by decide +kernel⟩, by decide +kernel⟩, by decide +kernel⟩
theorem wl_Bo_21 : Cond.methodLink "PegBoards$Board" 21 ⟨"java/util/Arrays", "fill", "([II)V"⟩ ∈ mx_WS := mx_in 73 (by decide +kernel) rfl
theorem wt_Ar_fill : Cond.static ⟨"java/util/Arrays", "fill", "([II)V"⟩ ∈ mx_WS := mx_in 74 (by decide +kernel) rfl
theorem ks_Bo_21 : mx_csb "PegBoards$Board" 21 mY_Ar_fill = true := by
  simp only [mx_csb, Bool.and_eq_true, decide_eq_true_eq]
  exact ⟨wl_Bo_21, wt_Ar_fill⟩
theorem wi_Pe : Cond.initialized "PegBoards" ∈ mx_WS := mx_in 41 (by decide +kernel) rfl
theorem wc_Pe_clear : Cond.code ⟨"PegBoards", "clear", "(Z)V"⟩ prog_1_method_2_code 2 none ∈ mx_WS := mx_in 227 (by decide +kernel) rfl
theorem kd_Pe_clear : mx_cdb mY_Pe_clear 1 = true := by
  simp only [mx_cdb, Bool.and_eq_true, decide_eq_true_eq]
  exact ⟨⟨⟨⟨⟨wi_Pe, wc_Pe_clear⟩, by decide +kernel⟩, by decide +kernel⟩, by decide +kernel⟩, by decide +kernel⟩
theorem wl_La_73 : Cond.methodLink "PegBoardsLaw" 73 ⟨"PegBoards", "clear", "(Z)V"⟩ ∈ mx_WS := mx_in 224 (by decide +kernel) rfl
theorem wm_Pe_clear : Cond.instanceMethod ⟨"PegBoards", "clear", "(Z)V"⟩ ∈ mx_WS := mx_in 225 (by decide +kernel) rfl
theorem wv_Pe_clear : Cond.selects "PegBoards" ⟨"PegBoards", "clear", "(Z)V"⟩ ⟨"PegBoards", "clear", "(Z)V"⟩ ∈ mx_WS := mx_in 226 (by decide +kernel) rfl
theorem kv_La_73 : mx_cvb "PegBoardsLaw" 73 mY_Pe_clear = true := by
  simp only [mx_cvb, Bool.and_eq_true, decide_eq_true_eq]
  exact ⟨⟨wl_La_73, wm_Pe_clear⟩, wv_Pe_clear⟩
theorem wi_Bo : Cond.initialized "PegBoards$Board" ∈ mx_WS := mx_in 42 (by decide +kernel) rfl
theorem wc_Bo_wipe : Cond.code ⟨"PegBoards$Board", "wipe", "(Z)V"⟩ prog_2_method_2_code 2 none ∈ mx_WS := mx_in 231 (by decide +kernel) rfl
theorem kd_Bo_wipe : mx_cdb mY_Bo_wipe 1 = true := by
  simp only [mx_cdb, Bool.and_eq_true, decide_eq_true_eq]
  exact ⟨⟨⟨⟨⟨wi_Bo, wc_Bo_wipe⟩, by decide +kernel⟩, by decide +kernel⟩, by decide +kernel⟩, by decide +kernel⟩
theorem wl_Pe_44 : Cond.methodLink "PegBoards" 44 ⟨"PegBoards$Board", "wipe", "(Z)V"⟩ ∈ mx_WS := mx_in 228 (by decide +kernel) rfl
theorem wm_Bo_wipe : Cond.instanceMethod ⟨"PegBoards$Board", "wipe", "(Z)V"⟩ ∈ mx_WS := mx_in 229 (by decide +kernel) rfl
theorem wv_Bo_wipe : Cond.selects "PegBoards$Board" ⟨"PegBoards$Board", "wipe", "(Z)V"⟩ ⟨"PegBoards$Board", "wipe", "(Z)V"⟩ ∈ mx_WS := mx_in 230 (by decide +kernel) rfl
theorem kv_Pe_44 : mx_cvb "PegBoards" 44 mY_Bo_wipe = true := by
  simp only [mx_cvb, Bool.and_eq_true, decide_eq_true_eq]
  exact ⟨⟨wl_Pe_44, wm_Bo_wipe⟩, wv_Bo_wipe⟩
theorem wi_Ju : Cond.initialized "PegBoards$Jumps" ∈ mx_WS := mx_in 44 (by decide +kernel) rfl
theorem wc_Ju_forget : Cond.code ⟨"PegBoards$Jumps", "forget", "()V"⟩ prog_4_method_2_code 1 none ∈ mx_WS := mx_in 235 (by decide +kernel) rfl
theorem kd_Ju_forget : mx_cdb mY_Ju_forget 0 = true := by
  simp only [mx_cdb, Bool.and_eq_true, decide_eq_true_eq]
  exact ⟨⟨⟨⟨⟨wi_Ju, wc_Ju_forget⟩, by decide +kernel⟩, by decide +kernel⟩, by decide +kernel⟩, by decide +kernel⟩
theorem wl_Pe_48 : Cond.methodLink "PegBoards" 48 ⟨"PegBoards$Jumps", "forget", "()V"⟩ ∈ mx_WS := mx_in 232 (by decide +kernel) rfl
theorem wm_Ju_forget : Cond.instanceMethod ⟨"PegBoards$Jumps", "forget", "()V"⟩ ∈ mx_WS := mx_in 233 (by decide +kernel) rfl
theorem wv_Ju_forget : Cond.selects "PegBoards$Jumps" ⟨"PegBoards$Jumps", "forget", "()V"⟩ ⟨"PegBoards$Jumps", "forget", "()V"⟩ ∈ mx_WS := mx_in 234 (by decide +kernel) rfl
theorem kv_Pe_48 : mx_cvb "PegBoards" 48 mY_Ju_forget = true := by
  simp only [mx_cvb, Bool.and_eq_true, decide_eq_true_eq]
  exact ⟨⟨wl_Pe_48, wm_Ju_forget⟩, wv_Ju_forget⟩
theorem wi_Sy : Cond.initialized "PegBoards$Symmetries" ∈ mx_WS := mx_in 45 (by decide +kernel) rfl
theorem wc_Sy_forget : Cond.code ⟨"PegBoards$Symmetries", "forget", "()V"⟩ prog_6_method_2_code 1 none ∈ mx_WS := mx_in 239 (by decide +kernel) rfl
theorem kd_Sy_forget : mx_cdb mY_Sy_forget 0 = true := by
  simp only [mx_cdb, Bool.and_eq_true, decide_eq_true_eq]
  exact ⟨⟨⟨⟨⟨wi_Sy, wc_Sy_forget⟩, by decide +kernel⟩, by decide +kernel⟩, by decide +kernel⟩, by decide +kernel⟩
theorem wl_Pe_51 : Cond.methodLink "PegBoards" 51 ⟨"PegBoards$Symmetries", "forget", "()V"⟩ ∈ mx_WS := mx_in 236 (by decide +kernel) rfl
theorem wm_Sy_forget : Cond.instanceMethod ⟨"PegBoards$Symmetries", "forget", "()V"⟩ ∈ mx_WS := mx_in 237 (by decide +kernel) rfl
theorem wv_Sy_forget : Cond.selects "PegBoards$Symmetries" ⟨"PegBoards$Symmetries", "forget", "()V"⟩ ⟨"PegBoards$Symmetries", "forget", "()V"⟩ ∈ mx_WS := mx_in 238 (by decide +kernel) rfl
theorem kv_Pe_51 : mx_cvb "PegBoards" 51 mY_Sy_forget = true := by
  simp only [mx_cvb, Bool.and_eq_true, decide_eq_true_eq]
  exact ⟨⟨wl_Pe_51, wm_Sy_forget⟩, wv_Sy_forget⟩
theorem wi_We : Cond.initialized "PegBoards$Weights" ∈ mx_WS := mx_in 48 (by decide +kernel) rfl
theorem wc_We_forget : Cond.code ⟨"PegBoards$Weights", "forget", "()V"⟩ prog_7_method_2_code 1 none ∈ mx_WS := mx_in 243 (by decide +kernel) rfl
theorem kd_We_forget : mx_cdb mY_We_forget 0 = true := by
  simp only [mx_cdb, Bool.and_eq_true, decide_eq_true_eq]
  exact ⟨⟨⟨⟨⟨wi_We, wc_We_forget⟩, by decide +kernel⟩, by decide +kernel⟩, by decide +kernel⟩, by decide +kernel⟩
theorem wl_Pe_52 : Cond.methodLink "PegBoards" 52 ⟨"PegBoards$Weights", "forget", "()V"⟩ ∈ mx_WS := mx_in 240 (by decide +kernel) rfl
theorem wm_We_forget : Cond.instanceMethod ⟨"PegBoards$Weights", "forget", "()V"⟩ ∈ mx_WS := mx_in 241 (by decide +kernel) rfl
theorem wv_We_forget : Cond.selects "PegBoards$Weights" ⟨"PegBoards$Weights", "forget", "()V"⟩ ⟨"PegBoards$Weights", "forget", "()V"⟩ ∈ mx_WS := mx_in 242 (by decide +kernel) rfl
theorem kv_Pe_52 : mx_cvb "PegBoards" 52 mY_We_forget = true := by
  simp only [mx_cvb, Bool.and_eq_true, decide_eq_true_eq]
  exact ⟨⟨wl_Pe_52, wm_We_forget⟩, wv_We_forget⟩
theorem wl_We_18 : Cond.methodLink "PegBoards$Weights" 18 ⟨"java/util/Arrays", "fill", "([II)V"⟩ ∈ mx_WS := mx_in 244 (by decide +kernel) rfl
theorem ks_We_18 : mx_csb "PegBoards$Weights" 18 mY_Ar_fill = true := by
  simp only [mx_csb, Bool.and_eq_true, decide_eq_true_eq]
  exact ⟨wl_We_18, wt_Ar_fill⟩
theorem wc_Pe_at : Cond.code ⟨"PegBoards", "at", "(II)I"⟩ prog_1_method_5_code 3 (some .int) ∈ mx_WS := mx_in 248 (by decide +kernel) rfl
theorem kd_Pe_at : mx_cdb mY_Pe_at 2 = true := by
  simp only [mx_cdb, Bool.and_eq_true, decide_eq_true_eq]
  exact ⟨⟨⟨⟨⟨wi_Pe, wc_Pe_at⟩, by decide +kernel⟩, by decide +kernel⟩, by decide +kernel⟩, by decide +kernel⟩
theorem wl_La_91 : Cond.methodLink "PegBoardsLaw" 91 ⟨"PegBoards", "at", "(II)I"⟩ ∈ mx_WS := mx_in 245 (by decide +kernel) rfl
theorem wm_Pe_at : Cond.instanceMethod ⟨"PegBoards", "at", "(II)I"⟩ ∈ mx_WS := mx_in 246 (by decide +kernel) rfl
theorem wv_Pe_at : Cond.selects "PegBoards" ⟨"PegBoards", "at", "(II)I"⟩ ⟨"PegBoards", "at", "(II)I"⟩ ∈ mx_WS := mx_in 247 (by decide +kernel) rfl
theorem kv_La_91 : mx_cvb "PegBoardsLaw" 91 mY_Pe_at = true := by
  simp only [mx_cvb, Bool.and_eq_true, decide_eq_true_eq]
  exact ⟨⟨wl_La_91, wm_Pe_at⟩, wv_Pe_at⟩
theorem wc_Bo_numberAt : Cond.code ⟨"PegBoards$Board", "numberAt", "(II)I"⟩ prog_2_method_11_code 3 (some .int) ∈ mx_WS := mx_in 252 (by decide +kernel) rfl
theorem kd_Bo_numberAt : mx_cdb mY_Bo_numberAt 2 = true := by
  simp only [mx_cdb, Bool.and_eq_true, decide_eq_true_eq]
  exact ⟨⟨⟨⟨⟨wi_Bo, wc_Bo_numberAt⟩, by decide +kernel⟩, by decide +kernel⟩, by decide +kernel⟩, by decide +kernel⟩
theorem wl_Pe_101 : Cond.methodLink "PegBoards" 101 ⟨"PegBoards$Board", "numberAt", "(II)I"⟩ ∈ mx_WS := mx_in 249 (by decide +kernel) rfl
theorem wm_Bo_numberAt : Cond.instanceMethod ⟨"PegBoards$Board", "numberAt", "(II)I"⟩ ∈ mx_WS := mx_in 250 (by decide +kernel) rfl
theorem wv_Bo_numberAt : Cond.selects "PegBoards$Board" ⟨"PegBoards$Board", "numberAt", "(II)I"⟩ ⟨"PegBoards$Board", "numberAt", "(II)I"⟩ ∈ mx_WS := mx_in 251 (by decide +kernel) rfl
theorem kv_Pe_101 : mx_cvb "PegBoards" 101 mY_Bo_numberAt = true := by
  simp only [mx_cvb, Bool.and_eq_true, decide_eq_true_eq]
  exact ⟨⟨wl_Pe_101, wm_Bo_numberAt⟩, wv_Bo_numberAt⟩
theorem wc_Pe_isPlace : Cond.code ⟨"PegBoards", "isPlace", "(II)Z"⟩ prog_1_method_26_code 2 (some .boolean) ∈ mx_WS := mx_in 255 (by decide +kernel) rfl
theorem kd_Pe_isPlace : mx_cdb mY_Pe_isPlace 2 = true := by
  simp only [mx_cdb, Bool.and_eq_true, decide_eq_true_eq]
  exact ⟨⟨⟨⟨⟨wi_Pe, wc_Pe_isPlace⟩, by decide +kernel⟩, by decide +kernel⟩, by decide +kernel⟩, by decide +kernel⟩
theorem wn_Bo_42 : Cond.methodLinkNest "PegBoards$Board" 42 ⟨"PegBoards", "isPlace", "(II)Z"⟩ "PegBoards" ∈ mx_NW := mx_inN 253 (by decide +kernel) rfl
theorem wt_Pe_isPlace : Cond.static ⟨"PegBoards", "isPlace", "(II)Z"⟩ ∈ mx_WS := mx_in 254 (by decide +kernel) rfl
theorem kn_Bo_42 : mx_cnb "PegBoards$Board" 42 mY_Pe_isPlace = true := by
  simp only [mx_cnb, Bool.and_eq_true, decide_eq_true_eq]
  exact ⟨wn_Bo_42, wt_Pe_isPlace⟩
theorem wc_Pe_symmetries : Cond.code ⟨"PegBoards", "symmetries", "()I"⟩ prog_1_method_14_code 1 (some .int) ∈ mx_WS := mx_in 259 (by decide +kernel) rfl
theorem kd_Pe_symmetries : mx_cdb mY_Pe_symmetries 0 = true := by
  simp only [mx_cdb, Bool.and_eq_true, decide_eq_true_eq]
  exact ⟨⟨⟨⟨⟨wi_Pe, wc_Pe_symmetries⟩, by decide +kernel⟩, by decide +kernel⟩, by decide +kernel⟩, by decide +kernel⟩
theorem wl_La_121 : Cond.methodLink "PegBoardsLaw" 121 ⟨"PegBoards", "symmetries", "()I"⟩ ∈ mx_WS := mx_in 256 (by decide +kernel) rfl
theorem wm_Pe_symmetries : Cond.instanceMethod ⟨"PegBoards", "symmetries", "()I"⟩ ∈ mx_WS := mx_in 257 (by decide +kernel) rfl
theorem wv_Pe_symmetries : Cond.selects "PegBoards" ⟨"PegBoards", "symmetries", "()I"⟩ ⟨"PegBoards", "symmetries", "()I"⟩ ∈ mx_WS := mx_in 258 (by decide +kernel) rfl
theorem kv_La_121 : mx_cvb "PegBoardsLaw" 121 mY_Pe_symmetries = true := by
  simp only [mx_cvb, Bool.and_eq_true, decide_eq_true_eq]
  exact ⟨⟨wl_La_121, wm_Pe_symmetries⟩, wv_Pe_symmetries⟩
theorem wc_Sy_size : Cond.code ⟨"PegBoards$Symmetries", "size", "()I"⟩ prog_6_method_8_code 1 (some .int) ∈ mx_WS := mx_in 263 (by decide +kernel) rfl
theorem kd_Sy_size : mx_cdb mY_Sy_size 0 = true := by
  simp only [mx_cdb, Bool.and_eq_true, decide_eq_true_eq]
  exact ⟨⟨⟨⟨⟨wi_Sy, wc_Sy_size⟩, by decide +kernel⟩, by decide +kernel⟩, by decide +kernel⟩, by decide +kernel⟩
theorem wl_Pe_151 : Cond.methodLink "PegBoards" 151 ⟨"PegBoards$Symmetries", "size", "()I"⟩ ∈ mx_WS := mx_in 260 (by decide +kernel) rfl
theorem wm_Sy_size : Cond.instanceMethod ⟨"PegBoards$Symmetries", "size", "()I"⟩ ∈ mx_WS := mx_in 261 (by decide +kernel) rfl
theorem wv_Sy_size : Cond.selects "PegBoards$Symmetries" ⟨"PegBoards$Symmetries", "size", "()I"⟩ ⟨"PegBoards$Symmetries", "size", "()I"⟩ ∈ mx_WS := mx_in 262 (by decide +kernel) rfl
theorem kv_Pe_151 : mx_cvb "PegBoards" 151 mY_Sy_size = true := by
  simp only [mx_cvb, Bool.and_eq_true, decide_eq_true_eq]
  exact ⟨⟨wl_Pe_151, wm_Sy_size⟩, wv_Sy_size⟩
theorem wc_Pe_hole : Cond.code ⟨"PegBoards", "hole", "(II)I"⟩ prog_1_method_3_code 3 (some .int) ∈ mx_WS := mx_in 272 (by decide +kernel) rfl
theorem kd_Pe_hole : mx_cdb mY_Pe_hole 2 = true := by
  simp only [mx_cdb, Bool.and_eq_true, decide_eq_true_eq]
  exact ⟨⟨⟨⟨⟨wi_Pe, wc_Pe_hole⟩, by decide +kernel⟩, by decide +kernel⟩, by decide +kernel⟩, by decide +kernel⟩
theorem wl_La_7 : Cond.methodLink "PegBoardsLaw" 7 ⟨"PegBoards", "hole", "(II)I"⟩ ∈ mx_WS := mx_in 269 (by decide +kernel) rfl
theorem wm_Pe_hole : Cond.instanceMethod ⟨"PegBoards", "hole", "(II)I"⟩ ∈ mx_WS := mx_in 270 (by decide +kernel) rfl
theorem wv_Pe_hole : Cond.selects "PegBoards" ⟨"PegBoards", "hole", "(II)I"⟩ ⟨"PegBoards", "hole", "(II)I"⟩ ∈ mx_WS := mx_in 271 (by decide +kernel) rfl
theorem kv_La_7 : mx_cvb "PegBoardsLaw" 7 mY_Pe_hole = true := by
  simp only [mx_cvb, Bool.and_eq_true, decide_eq_true_eq]
  exact ⟨⟨wl_La_7, wm_Pe_hole⟩, wv_Pe_hole⟩
theorem wl_Pe_60 : Cond.methodLink "PegBoards" 60 ⟨"PegBoards", "isPlace", "(II)Z"⟩ ∈ mx_WS := mx_in 273 (by decide +kernel) rfl
theorem ks_Pe_60 : mx_csb "PegBoards" 60 mY_Pe_isPlace = true := by
  simp only [mx_csb, Bool.and_eq_true, decide_eq_true_eq]
  exact ⟨wl_Pe_60, wt_Pe_isPlace⟩
theorem wc_Bo_canDraw : Cond.code ⟨"PegBoards$Board", "canDraw", "(II)Z"⟩ prog_2_method_3_code 3 (some .boolean) ∈ mx_WS := mx_in 345 (by decide +kernel) rfl
theorem kd_Bo_canDraw : mx_cdb mY_Bo_canDraw 2 = true := by
  simp only [mx_cdb, Bool.and_eq_true, decide_eq_true_eq]
  exact ⟨⟨⟨⟨⟨wi_Bo, wc_Bo_canDraw⟩, by decide +kernel⟩, by decide +kernel⟩, by decide +kernel⟩, by decide +kernel⟩
theorem wl_Pe_71 : Cond.methodLink "PegBoards" 71 ⟨"PegBoards$Board", "canDraw", "(II)Z"⟩ ∈ mx_WS := mx_in 342 (by decide +kernel) rfl
theorem wm_Bo_canDraw : Cond.instanceMethod ⟨"PegBoards$Board", "canDraw", "(II)Z"⟩ ∈ mx_WS := mx_in 343 (by decide +kernel) rfl
theorem wv_Bo_canDraw : Cond.selects "PegBoards$Board" ⟨"PegBoards$Board", "canDraw", "(II)Z"⟩ ⟨"PegBoards$Board", "canDraw", "(II)Z"⟩ ∈ mx_WS := mx_in 344 (by decide +kernel) rfl
theorem kv_Pe_71 : mx_cvb "PegBoards" 71 mY_Bo_canDraw = true := by
  simp only [mx_cvb, Bool.and_eq_true, decide_eq_true_eq]
  exact ⟨⟨wl_Pe_71, wm_Bo_canDraw⟩, wv_Bo_canDraw⟩
theorem wc_Bo_draw : Cond.code ⟨"PegBoards$Board", "draw", "(II)I"⟩ prog_2_method_4_code 3 (some .int) ∈ mx_WS := mx_in 365 (by decide +kernel) rfl
theorem kd_Bo_draw : mx_cdb mY_Bo_draw 2 = true := by
  simp only [mx_cdb, Bool.and_eq_true, decide_eq_true_eq]
  exact ⟨⟨⟨⟨⟨wi_Bo, wc_Bo_draw⟩, by decide +kernel⟩, by decide +kernel⟩, by decide +kernel⟩, by decide +kernel⟩
theorem wl_Pe_79 : Cond.methodLink "PegBoards" 79 ⟨"PegBoards$Board", "draw", "(II)I"⟩ ∈ mx_WS := mx_in 362 (by decide +kernel) rfl
theorem wm_Bo_draw : Cond.instanceMethod ⟨"PegBoards$Board", "draw", "(II)I"⟩ ∈ mx_WS := mx_in 363 (by decide +kernel) rfl
theorem wv_Bo_draw : Cond.selects "PegBoards$Board" ⟨"PegBoards$Board", "draw", "(II)I"⟩ ⟨"PegBoards$Board", "draw", "(II)I"⟩ ∈ mx_WS := mx_in 364 (by decide +kernel) rfl
theorem kv_Pe_79 : mx_cvb "PegBoards" 79 mY_Bo_draw = true := by
  simp only [mx_cvb, Bool.and_eq_true, decide_eq_true_eq]
  exact ⟨⟨wl_Pe_79, wm_Bo_draw⟩, wv_Bo_draw⟩
theorem wc_Pe_freeze : Cond.code ⟨"PegBoards", "freeze", "()I"⟩ prog_1_method_4_code 1 (some .int) ∈ mx_WS := mx_in 372 (by decide +kernel) rfl
theorem kd_Pe_freeze : mx_cdb mY_Pe_freeze 0 = true := by
  simp only [mx_cdb, Bool.and_eq_true, decide_eq_true_eq]
  exact ⟨⟨⟨⟨⟨wi_Pe, wc_Pe_freeze⟩, by decide +kernel⟩, by decide +kernel⟩, by decide +kernel⟩, by decide +kernel⟩
theorem wl_La_17 : Cond.methodLink "PegBoardsLaw" 17 ⟨"PegBoards", "freeze", "()I"⟩ ∈ mx_WS := mx_in 369 (by decide +kernel) rfl
theorem wm_Pe_freeze : Cond.instanceMethod ⟨"PegBoards", "freeze", "()I"⟩ ∈ mx_WS := mx_in 370 (by decide +kernel) rfl
theorem wv_Pe_freeze : Cond.selects "PegBoards" ⟨"PegBoards", "freeze", "()I"⟩ ⟨"PegBoards", "freeze", "()I"⟩ ∈ mx_WS := mx_in 371 (by decide +kernel) rfl
theorem kv_La_17 : mx_cvb "PegBoardsLaw" 17 mY_Pe_freeze = true := by
  simp only [mx_cvb, Bool.and_eq_true, decide_eq_true_eq]
  exact ⟨⟨wl_La_17, wm_Pe_freeze⟩, wv_Pe_freeze⟩
theorem wc_Bo_canBeNumbered : Cond.code ⟨"PegBoards$Board", "canBeNumbered", "()Z"⟩ prog_2_method_5_code 1 (some .boolean) ∈ mx_WS := mx_in 376 (by decide +kernel) rfl
theorem kd_Bo_canBeNumbered : mx_cdb mY_Bo_canBeNumbered 0 = true := by
  simp only [mx_cdb, Bool.and_eq_true, decide_eq_true_eq]
  exact ⟨⟨⟨⟨⟨wi_Bo, wc_Bo_canBeNumbered⟩, by decide +kernel⟩, by decide +kernel⟩, by decide +kernel⟩, by decide +kernel⟩
theorem wl_Pe_83 : Cond.methodLink "PegBoards" 83 ⟨"PegBoards$Board", "canBeNumbered", "()Z"⟩ ∈ mx_WS := mx_in 373 (by decide +kernel) rfl
theorem wm_Bo_canBeNumbered : Cond.instanceMethod ⟨"PegBoards$Board", "canBeNumbered", "()Z"⟩ ∈ mx_WS := mx_in 374 (by decide +kernel) rfl
theorem wv_Bo_canBeNumbered : Cond.selects "PegBoards$Board" ⟨"PegBoards$Board", "canBeNumbered", "()Z"⟩ ⟨"PegBoards$Board", "canBeNumbered", "()Z"⟩ ∈ mx_WS := mx_in 375 (by decide +kernel) rfl
theorem kv_Pe_83 : mx_cvb "PegBoards" 83 mY_Bo_canBeNumbered = true := by
  simp only [mx_cvb, Bool.and_eq_true, decide_eq_true_eq]
  exact ⟨⟨wl_Pe_83, wm_Bo_canBeNumbered⟩, wv_Bo_canBeNumbered⟩
theorem wc_Bo_numberHoles : Cond.code ⟨"PegBoards$Board", "numberHoles", "()V"⟩ prog_2_method_6_code 3 none ∈ mx_WS := mx_in 381 (by decide +kernel) rfl
theorem kd_Bo_numberHoles : mx_cdb mY_Bo_numberHoles 0 = true := by
  simp only [mx_cdb, Bool.and_eq_true, decide_eq_true_eq]
  exact ⟨⟨⟨⟨⟨wi_Bo, wc_Bo_numberHoles⟩, by decide +kernel⟩, by decide +kernel⟩, by decide +kernel⟩, by decide +kernel⟩
theorem wl_Pe_89 : Cond.methodLink "PegBoards" 89 ⟨"PegBoards$Board", "numberHoles", "()V"⟩ ∈ mx_WS := mx_in 378 (by decide +kernel) rfl
theorem wm_Bo_numberHoles : Cond.instanceMethod ⟨"PegBoards$Board", "numberHoles", "()V"⟩ ∈ mx_WS := mx_in 379 (by decide +kernel) rfl
theorem wv_Bo_numberHoles : Cond.selects "PegBoards$Board" ⟨"PegBoards$Board", "numberHoles", "()V"⟩ ⟨"PegBoards$Board", "numberHoles", "()V"⟩ ∈ mx_WS := mx_in 380 (by decide +kernel) rfl
theorem kv_Pe_89 : mx_cvb "PegBoards" 89 mY_Bo_numberHoles = true := by
  simp only [mx_cvb, Bool.and_eq_true, decide_eq_true_eq]
  exact ⟨⟨wl_Pe_89, wm_Bo_numberHoles⟩, wv_Bo_numberHoles⟩
theorem wc_Ju_list : Cond.code ⟨"PegBoards$Jumps", "list", "(LPegBoards$Board;)V"⟩ prog_4_method_3_code 6 none ∈ mx_WS := mx_in 385 (by decide +kernel) rfl
theorem kd_Ju_list : mx_cdb mY_Ju_list 1 = true := by
  simp only [mx_cdb, Bool.and_eq_true, decide_eq_true_eq]
  exact ⟨⟨⟨⟨⟨wi_Ju, wc_Ju_list⟩, by decide +kernel⟩, by decide +kernel⟩, by decide +kernel⟩, by decide +kernel⟩
theorem wl_Pe_92 : Cond.methodLink "PegBoards" 92 ⟨"PegBoards$Jumps", "list", "(LPegBoards$Board;)V"⟩ ∈ mx_WS := mx_in 382 (by decide +kernel) rfl
theorem wm_Ju_list : Cond.instanceMethod ⟨"PegBoards$Jumps", "list", "(LPegBoards$Board;)V"⟩ ∈ mx_WS := mx_in 383 (by decide +kernel) rfl
theorem wv_Ju_list : Cond.selects "PegBoards$Jumps" ⟨"PegBoards$Jumps", "list", "(LPegBoards$Board;)V"⟩ ⟨"PegBoards$Jumps", "list", "(LPegBoards$Board;)V"⟩ ∈ mx_WS := mx_in 384 (by decide +kernel) rfl
theorem kv_Pe_92 : mx_cvb "PegBoards" 92 mY_Ju_list = true := by
  simp only [mx_cvb, Bool.and_eq_true, decide_eq_true_eq]
  exact ⟨⟨wl_Pe_92, wm_Ju_list⟩, wv_Ju_list⟩
theorem wc_Bo_isTriangular : Cond.code ⟨"PegBoards$Board", "isTriangular", "()Z"⟩ prog_2_method_7_code 1 (some .boolean) ∈ mx_WS := mx_in 389 (by decide +kernel) rfl
theorem kd_Bo_isTriangular : mx_cdb mY_Bo_isTriangular 0 = true := by
  simp only [mx_cdb, Bool.and_eq_true, decide_eq_true_eq]
  exact ⟨⟨⟨⟨⟨wi_Bo, wc_Bo_isTriangular⟩, by decide +kernel⟩, by decide +kernel⟩, by decide +kernel⟩, by decide +kernel⟩
theorem wl_Ju_31 : Cond.methodLink "PegBoards$Jumps" 31 ⟨"PegBoards$Board", "isTriangular", "()Z"⟩ ∈ mx_WS := mx_in 386 (by decide +kernel) rfl
theorem wm_Bo_isTriangular : Cond.instanceMethod ⟨"PegBoards$Board", "isTriangular", "()Z"⟩ ∈ mx_WS := mx_in 387 (by decide +kernel) rfl
theorem wv_Bo_isTriangular : Cond.selects "PegBoards$Board" ⟨"PegBoards$Board", "isTriangular", "()Z"⟩ ⟨"PegBoards$Board", "isTriangular", "()Z"⟩ ∈ mx_WS := mx_in 388 (by decide +kernel) rfl
theorem kv_Ju_31 : mx_cvb "PegBoards$Jumps" 31 mY_Bo_isTriangular = true := by
  simp only [mx_cvb, Bool.and_eq_true, decide_eq_true_eq]
  exact ⟨⟨wl_Ju_31, wm_Bo_isTriangular⟩, wv_Bo_isTriangular⟩
theorem wc_Bo_holes : Cond.code ⟨"PegBoards$Board", "holes", "()I"⟩ prog_2_method_9_code 1 (some .int) ∈ mx_WS := mx_in 401 (by decide +kernel) rfl
theorem kd_Bo_holes : mx_cdb mY_Bo_holes 0 = true := by
  simp only [mx_cdb, Bool.and_eq_true, decide_eq_true_eq]
  exact ⟨⟨⟨⟨⟨wi_Bo, wc_Bo_holes⟩, by decide +kernel⟩, by decide +kernel⟩, by decide +kernel⟩, by decide +kernel⟩
theorem wl_Ju_49 : Cond.methodLink "PegBoards$Jumps" 49 ⟨"PegBoards$Board", "holes", "()I"⟩ ∈ mx_WS := mx_in 398 (by decide +kernel) rfl
theorem wm_Bo_holes : Cond.instanceMethod ⟨"PegBoards$Board", "holes", "()I"⟩ ∈ mx_WS := mx_in 399 (by decide +kernel) rfl
theorem wv_Bo_holes : Cond.selects "PegBoards$Board" ⟨"PegBoards$Board", "holes", "()I"⟩ ⟨"PegBoards$Board", "holes", "()I"⟩ ∈ mx_WS := mx_in 400 (by decide +kernel) rfl
theorem kv_Ju_49 : mx_cvb "PegBoards$Jumps" 49 mY_Bo_holes = true := by
  simp only [mx_cvb, Bool.and_eq_true, decide_eq_true_eq]
  exact ⟨⟨wl_Ju_49, wm_Bo_holes⟩, wv_Bo_holes⟩
theorem wc_Ju_listOne : Cond.code ⟨"PegBoards$Jumps", "listOne", "(LPegBoards$Board;III)V"⟩ prog_4_method_4_code 9 none ∈ mx_WS := mx_in 405 (by decide +kernel) rfl
theorem kd_Ju_listOne : mx_cdb mY_Ju_listOne 4 = true := by
  simp only [mx_cdb, Bool.and_eq_true, decide_eq_true_eq]
  exact ⟨⟨⟨⟨⟨wi_Ju, wc_Ju_listOne⟩, by decide +kernel⟩, by decide +kernel⟩, by decide +kernel⟩, by decide +kernel⟩
theorem wl_Ju_53 : Cond.methodLink "PegBoards$Jumps" 53 ⟨"PegBoards$Jumps", "listOne", "(LPegBoards$Board;III)V"⟩ ∈ mx_WS := mx_in 402 (by decide +kernel) rfl
theorem wm_Ju_listOne : Cond.instanceMethod ⟨"PegBoards$Jumps", "listOne", "(LPegBoards$Board;III)V"⟩ ∈ mx_WS := mx_in 404 (by decide +kernel) rfl
theorem wv_Ju_listOne : Cond.selects "PegBoards$Jumps" ⟨"PegBoards$Jumps", "listOne", "(LPegBoards$Board;III)V"⟩ ⟨"PegBoards$Jumps", "listOne", "(LPegBoards$Board;III)V"⟩ ∈ mx_WS := mx_in 1 (by decide +kernel) rfl
theorem kv_Ju_53 : mx_cvb "PegBoards$Jumps" 53 mY_Ju_listOne = true := by
  simp only [mx_cvb, Bool.and_eq_true, decide_eq_true_eq]
  exact ⟨⟨wl_Ju_53, wm_Ju_listOne⟩, wv_Ju_listOne⟩
theorem wc_Bo_rowOf : Cond.code ⟨"PegBoards$Board", "rowOf", "(I)I"⟩ prog_2_method_12_code 2 (some .int) ∈ mx_WS := mx_in 409 (by decide +kernel) rfl
theorem kd_Bo_rowOf : mx_cdb mY_Bo_rowOf 1 = true := by
  simp only [mx_cdb, Bool.and_eq_true, decide_eq_true_eq]
  exact ⟨⟨⟨⟨⟨wi_Bo, wc_Bo_rowOf⟩, by decide +kernel⟩, by decide +kernel⟩, by decide +kernel⟩, by decide +kernel⟩
theorem wl_Ju_57 : Cond.methodLink "PegBoards$Jumps" 57 ⟨"PegBoards$Board", "rowOf", "(I)I"⟩ ∈ mx_WS := mx_in 406 (by decide +kernel) rfl
theorem wm_Bo_rowOf : Cond.instanceMethod ⟨"PegBoards$Board", "rowOf", "(I)I"⟩ ∈ mx_WS := mx_in 407 (by decide +kernel) rfl
theorem wv_Bo_rowOf : Cond.selects "PegBoards$Board" ⟨"PegBoards$Board", "rowOf", "(I)I"⟩ ⟨"PegBoards$Board", "rowOf", "(I)I"⟩ ∈ mx_WS := mx_in 408 (by decide +kernel) rfl
theorem kv_Ju_57 : mx_cvb "PegBoards$Jumps" 57 mY_Bo_rowOf = true := by
  simp only [mx_cvb, Bool.and_eq_true, decide_eq_true_eq]
  exact ⟨⟨wl_Ju_57, wm_Bo_rowOf⟩, wv_Bo_rowOf⟩
theorem wc_Bo_columnOf : Cond.code ⟨"PegBoards$Board", "columnOf", "(I)I"⟩ prog_2_method_13_code 2 (some .int) ∈ mx_WS := mx_in 413 (by decide +kernel) rfl
theorem kd_Bo_columnOf : mx_cdb mY_Bo_columnOf 1 = true := by
  simp only [mx_cdb, Bool.and_eq_true, decide_eq_true_eq]
  exact ⟨⟨⟨⟨⟨wi_Bo, wc_Bo_columnOf⟩, by decide +kernel⟩, by decide +kernel⟩, by decide +kernel⟩, by decide +kernel⟩
theorem wl_Ju_61 : Cond.methodLink "PegBoards$Jumps" 61 ⟨"PegBoards$Board", "columnOf", "(I)I"⟩ ∈ mx_WS := mx_in 410 (by decide +kernel) rfl
theorem wm_Bo_columnOf : Cond.instanceMethod ⟨"PegBoards$Board", "columnOf", "(I)I"⟩ ∈ mx_WS := mx_in 411 (by decide +kernel) rfl
theorem wv_Bo_columnOf : Cond.selects "PegBoards$Board" ⟨"PegBoards$Board", "columnOf", "(I)I"⟩ ⟨"PegBoards$Board", "columnOf", "(I)I"⟩ ∈ mx_WS := mx_in 412 (by decide +kernel) rfl
theorem kv_Ju_61 : mx_cvb "PegBoards$Jumps" 61 mY_Bo_columnOf = true := by
  simp only [mx_cvb, Bool.and_eq_true, decide_eq_true_eq]
  exact ⟨⟨wl_Ju_61, wm_Bo_columnOf⟩, wv_Bo_columnOf⟩
theorem wl_Ju_64 : Cond.methodLink "PegBoards$Jumps" 64 ⟨"PegBoards$Board", "numberAt", "(II)I"⟩ ∈ mx_WS := mx_in 414 (by decide +kernel) rfl
theorem kv_Ju_64 : mx_cvb "PegBoards$Jumps" 64 mY_Bo_numberAt = true := by
  simp only [mx_cvb, Bool.and_eq_true, decide_eq_true_eq]
  exact ⟨⟨wl_Ju_64, wm_Bo_numberAt⟩, wv_Bo_numberAt⟩
theorem wc_Sy_list : Cond.code ⟨"PegBoards$Symmetries", "list", "(LPegBoards$Board;)V"⟩ prog_6_method_3_code 5 none ∈ mx_WS := mx_in 418 (by decide +kernel) rfl
theorem kd_Sy_list : mx_cdb mY_Sy_list 1 = true := by
  simp only [mx_cdb, Bool.and_eq_true, decide_eq_true_eq]
  exact ⟨⟨⟨⟨⟨wi_Sy, wc_Sy_list⟩, by decide +kernel⟩, by decide +kernel⟩, by decide +kernel⟩, by decide +kernel⟩
theorem wl_Pe_96 : Cond.methodLink "PegBoards" 96 ⟨"PegBoards$Symmetries", "list", "(LPegBoards$Board;)V"⟩ ∈ mx_WS := mx_in 415 (by decide +kernel) rfl
theorem wm_Sy_list : Cond.instanceMethod ⟨"PegBoards$Symmetries", "list", "(LPegBoards$Board;)V"⟩ ∈ mx_WS := mx_in 416 (by decide +kernel) rfl
theorem wv_Sy_list : Cond.selects "PegBoards$Symmetries" ⟨"PegBoards$Symmetries", "list", "(LPegBoards$Board;)V"⟩ ⟨"PegBoards$Symmetries", "list", "(LPegBoards$Board;)V"⟩ ∈ mx_WS := mx_in 417 (by decide +kernel) rfl
theorem kv_Pe_96 : mx_cvb "PegBoards" 96 mY_Sy_list = true := by
  simp only [mx_cvb, Bool.and_eq_true, decide_eq_true_eq]
  exact ⟨⟨wl_Pe_96, wm_Sy_list⟩, wv_Sy_list⟩
theorem wl_Sy_27 : Cond.methodLink "PegBoards$Symmetries" 27 ⟨"PegBoards$Board", "isTriangular", "()Z"⟩ ∈ mx_WS := mx_in 419 (by decide +kernel) rfl
theorem kv_Sy_27 : mx_cvb "PegBoards$Symmetries" 27 mY_Bo_isTriangular = true := by
  simp only [mx_cvb, Bool.and_eq_true, decide_eq_true_eq]
  exact ⟨⟨wl_Sy_27, wm_Bo_isTriangular⟩, wv_Bo_isTriangular⟩
theorem wl_Sy_33 : Cond.methodLink "PegBoards$Symmetries" 33 ⟨"PegBoards$Board", "holes", "()I"⟩ ∈ mx_WS := mx_in 420 (by decide +kernel) rfl
theorem kv_Sy_33 : mx_cvb "PegBoards$Symmetries" 33 mY_Bo_holes = true := by
  simp only [mx_cvb, Bool.and_eq_true, decide_eq_true_eq]
  exact ⟨⟨wl_Sy_33, wm_Bo_holes⟩, wv_Bo_holes⟩
theorem wc_Sy_turn : Cond.code ⟨"PegBoards$Symmetries", "turn", "(LPegBoards$Board;II)V"⟩ prog_6_method_4_code 8 none ∈ mx_WS := mx_in 424 (by decide +kernel) rfl
theorem kd_Sy_turn : mx_cdb mY_Sy_turn 3 = true := by
  simp only [mx_cdb, Bool.and_eq_true, decide_eq_true_eq]
  exact ⟨⟨⟨⟨⟨wi_Sy, wc_Sy_turn⟩, by decide +kernel⟩, by decide +kernel⟩, by decide +kernel⟩, by decide +kernel⟩
theorem wl_Sy_39 : Cond.methodLink "PegBoards$Symmetries" 39 ⟨"PegBoards$Symmetries", "turn", "(LPegBoards$Board;II)V"⟩ ∈ mx_WS := mx_in 421 (by decide +kernel) rfl
theorem wm_Sy_turn : Cond.instanceMethod ⟨"PegBoards$Symmetries", "turn", "(LPegBoards$Board;II)V"⟩ ∈ mx_WS := mx_in 423 (by decide +kernel) rfl
theorem wv_Sy_turn : Cond.selects "PegBoards$Symmetries" ⟨"PegBoards$Symmetries", "turn", "(LPegBoards$Board;II)V"⟩ ⟨"PegBoards$Symmetries", "turn", "(LPegBoards$Board;II)V"⟩ ∈ mx_WS := mx_in 2 (by decide +kernel) rfl
theorem kv_Sy_39 : mx_cvb "PegBoards$Symmetries" 39 mY_Sy_turn = true := by
  simp only [mx_cvb, Bool.and_eq_true, decide_eq_true_eq]
  exact ⟨⟨wl_Sy_39, wm_Sy_turn⟩, wv_Sy_turn⟩
theorem wl_Sy_65 : Cond.methodLink "PegBoards$Symmetries" 65 ⟨"PegBoards$Board", "rowOf", "(I)I"⟩ ∈ mx_WS := mx_in 425 (by decide +kernel) rfl
theorem kv_Sy_65 : mx_cvb "PegBoards$Symmetries" 65 mY_Bo_rowOf = true := by
  simp only [mx_cvb, Bool.and_eq_true, decide_eq_true_eq]
  exact ⟨⟨wl_Sy_65, wm_Bo_rowOf⟩, wv_Bo_rowOf⟩
theorem wl_Sy_69 : Cond.methodLink "PegBoards$Symmetries" 69 ⟨"PegBoards$Board", "columnOf", "(I)I"⟩ ∈ mx_WS := mx_in 426 (by decide +kernel) rfl
theorem kv_Sy_69 : mx_cvb "PegBoards$Symmetries" 69 mY_Bo_columnOf = true := by
  simp only [mx_cvb, Bool.and_eq_true, decide_eq_true_eq]
  exact ⟨⟨wl_Sy_69, wm_Bo_columnOf⟩, wv_Bo_columnOf⟩
theorem wc_Sy_mirror : Cond.code ⟨"PegBoards$Symmetries", "mirror", "(I)V"⟩ prog_6_method_5_code 3 none ∈ mx_WS := mx_in 430 (by decide +kernel) rfl
theorem kd_Sy_mirror : mx_cdb mY_Sy_mirror 1 = true := by
  simp only [mx_cdb, Bool.and_eq_true, decide_eq_true_eq]
  exact ⟨⟨⟨⟨⟨wi_Sy, wc_Sy_mirror⟩, by decide +kernel⟩, by decide +kernel⟩, by decide +kernel⟩, by decide +kernel⟩
theorem wl_Sy_43 : Cond.methodLink "PegBoards$Symmetries" 43 ⟨"PegBoards$Symmetries", "mirror", "(I)V"⟩ ∈ mx_WS := mx_in 427 (by decide +kernel) rfl
theorem wm_Sy_mirror : Cond.instanceMethod ⟨"PegBoards$Symmetries", "mirror", "(I)V"⟩ ∈ mx_WS := mx_in 429 (by decide +kernel) rfl
theorem wv_Sy_mirror : Cond.selects "PegBoards$Symmetries" ⟨"PegBoards$Symmetries", "mirror", "(I)V"⟩ ⟨"PegBoards$Symmetries", "mirror", "(I)V"⟩ ∈ mx_WS := mx_in 3 (by decide +kernel) rfl
theorem kv_Sy_43 : mx_cvb "PegBoards$Symmetries" 43 mY_Sy_mirror = true := by
  simp only [mx_cvb, Bool.and_eq_true, decide_eq_true_eq]
  exact ⟨⟨wl_Sy_43, wm_Sy_mirror⟩, wv_Sy_mirror⟩
theorem wc_Bo_leastRow : Cond.code ⟨"PegBoards$Board", "leastRow", "()I"⟩ prog_2_method_14_code 1 (some .int) ∈ mx_WS := mx_in 434 (by decide +kernel) rfl
theorem kd_Bo_leastRow : mx_cdb mY_Bo_leastRow 0 = true := by
  simp only [mx_cdb, Bool.and_eq_true, decide_eq_true_eq]
  exact ⟨⟨⟨⟨⟨wi_Bo, wc_Bo_leastRow⟩, by decide +kernel⟩, by decide +kernel⟩, by decide +kernel⟩, by decide +kernel⟩
theorem wl_Sy_47 : Cond.methodLink "PegBoards$Symmetries" 47 ⟨"PegBoards$Board", "leastRow", "()I"⟩ ∈ mx_WS := mx_in 431 (by decide +kernel) rfl
theorem wm_Bo_leastRow : Cond.instanceMethod ⟨"PegBoards$Board", "leastRow", "()I"⟩ ∈ mx_WS := mx_in 432 (by decide +kernel) rfl
theorem wv_Bo_leastRow : Cond.selects "PegBoards$Board" ⟨"PegBoards$Board", "leastRow", "()I"⟩ ⟨"PegBoards$Board", "leastRow", "()I"⟩ ∈ mx_WS := mx_in 433 (by decide +kernel) rfl
theorem kv_Sy_47 : mx_cvb "PegBoards$Symmetries" 47 mY_Bo_leastRow = true := by
  simp only [mx_cvb, Bool.and_eq_true, decide_eq_true_eq]
  exact ⟨⟨wl_Sy_47, wm_Bo_leastRow⟩, wv_Bo_leastRow⟩
theorem wl_Bo_38 : Cond.methodLink "PegBoards$Board" 38 ⟨"PegBoards$Board", "holes", "()I"⟩ ∈ mx_WS := mx_in 435 (by decide +kernel) rfl
theorem kv_Bo_38 : mx_cvb "PegBoards$Board" 38 mY_Bo_holes = true := by
  simp only [mx_cvb, Bool.and_eq_true, decide_eq_true_eq]
  exact ⟨⟨wl_Bo_38, wm_Bo_holes⟩, wv_Bo_holes⟩
theorem wc_Pe_leastIn : Cond.code ⟨"PegBoards", "leastIn", "([II)I"⟩ prog_1_method_28_code 4 (some .int) ∈ mx_WS := mx_in 438 (by decide +kernel) rfl
theorem kd_Pe_leastIn : mx_cdb mY_Pe_leastIn 2 = true := by
  simp only [mx_cdb, Bool.and_eq_true, decide_eq_true_eq]
  exact ⟨⟨⟨⟨⟨wi_Pe, wc_Pe_leastIn⟩, by decide +kernel⟩, by decide +kernel⟩, by decide +kernel⟩, by decide +kernel⟩
theorem wn_Bo_46 : Cond.methodLinkNest "PegBoards$Board" 46 ⟨"PegBoards", "leastIn", "([II)I"⟩ "PegBoards" ∈ mx_NW := mx_inN 436 (by decide +kernel) rfl
theorem wt_Pe_leastIn : Cond.static ⟨"PegBoards", "leastIn", "([II)I"⟩ ∈ mx_WS := mx_in 437 (by decide +kernel) rfl
theorem kn_Bo_46 : mx_cnb "PegBoards$Board" 46 mY_Pe_leastIn = true := by
  simp only [mx_cnb, Bool.and_eq_true, decide_eq_true_eq]
  exact ⟨wn_Bo_46, wt_Pe_leastIn⟩
theorem wi_Ma : Cond.initialized "java/lang/Math" ∈ mx_WS := mx_in 55 (by decide +kernel) rfl
theorem wc_Ma_min : Cond.code ⟨"java/lang/Math", "min", "(II)I"⟩ prog_15_method_69_code 2 (some .int) ∈ mx_WS := mx_in 441 (by decide +kernel) rfl
theorem kd_Ma_min : mx_cdb mY_Ma_min 2 = true := by
  simp only [mx_cdb, Bool.and_eq_true, decide_eq_true_eq]
  exact ⟨⟨⟨⟨⟨wi_Ma, wc_Ma_min⟩, by decide +kernel⟩, by decide +kernel⟩, by decide +kernel⟩, by decide +kernel⟩
theorem wl_Pe_219 : Cond.methodLink "PegBoards" 219 ⟨"java/lang/Math", "min", "(II)I"⟩ ∈ mx_WS := mx_in 439 (by decide +kernel) rfl
theorem wt_Ma_min : Cond.static ⟨"java/lang/Math", "min", "(II)I"⟩ ∈ mx_WS := mx_in 440 (by decide +kernel) rfl
theorem ks_Pe_219 : mx_csb "PegBoards" 219 mY_Ma_min = true := by
  simp only [mx_csb, Bool.and_eq_true, decide_eq_true_eq]
  exact ⟨wl_Pe_219, wt_Ma_min⟩
theorem wn_Sy_50 : Cond.methodLinkNest "PegBoards$Symmetries" 50 ⟨"PegBoards", "leastIn", "([II)I"⟩ "PegBoards" ∈ mx_NW := mx_inN 442 (by decide +kernel) rfl
theorem kn_Sy_50 : mx_cnb "PegBoards$Symmetries" 50 mY_Pe_leastIn = true := by
  simp only [mx_cnb, Bool.and_eq_true, decide_eq_true_eq]
  exact ⟨wn_Sy_50, wt_Pe_leastIn⟩
theorem wc_Sy_moveBy : Cond.code ⟨"PegBoards$Symmetries", "moveBy", "(I[I)V"⟩ prog_6_method_6_code 4 none ∈ mx_WS := mx_in 446 (by decide +kernel) rfl
theorem kd_Sy_moveBy : mx_cdb mY_Sy_moveBy 2 = true := by
  simp only [mx_cdb, Bool.and_eq_true, decide_eq_true_eq]
  exact ⟨⟨⟨⟨⟨wi_Sy, wc_Sy_moveBy⟩, by decide +kernel⟩, by decide +kernel⟩, by decide +kernel⟩, by decide +kernel⟩
theorem wl_Sy_54 : Cond.methodLink "PegBoards$Symmetries" 54 ⟨"PegBoards$Symmetries", "moveBy", "(I[I)V"⟩ ∈ mx_WS := mx_in 443 (by decide +kernel) rfl
theorem wm_Sy_moveBy : Cond.instanceMethod ⟨"PegBoards$Symmetries", "moveBy", "(I[I)V"⟩ ∈ mx_WS := mx_in 445 (by decide +kernel) rfl
theorem wv_Sy_moveBy : Cond.selects "PegBoards$Symmetries" ⟨"PegBoards$Symmetries", "moveBy", "(I[I)V"⟩ ⟨"PegBoards$Symmetries", "moveBy", "(I[I)V"⟩ ∈ mx_WS := mx_in 4 (by decide +kernel) rfl
theorem kv_Sy_54 : mx_cvb "PegBoards$Symmetries" 54 mY_Sy_moveBy = true := by
  simp only [mx_cvb, Bool.and_eq_true, decide_eq_true_eq]
  exact ⟨⟨wl_Sy_54, wm_Sy_moveBy⟩, wv_Sy_moveBy⟩
theorem wc_Bo_leastColumn : Cond.code ⟨"PegBoards$Board", "leastColumn", "()I"⟩ prog_2_method_15_code 1 (some .int) ∈ mx_WS := mx_in 450 (by decide +kernel) rfl
theorem kd_Bo_leastColumn : mx_cdb mY_Bo_leastColumn 0 = true := by
  simp only [mx_cdb, Bool.and_eq_true, decide_eq_true_eq]
  exact ⟨⟨⟨⟨⟨wi_Bo, wc_Bo_leastColumn⟩, by decide +kernel⟩, by decide +kernel⟩, by decide +kernel⟩, by decide +kernel⟩
theorem wl_Sy_58 : Cond.methodLink "PegBoards$Symmetries" 58 ⟨"PegBoards$Board", "leastColumn", "()I"⟩ ∈ mx_WS := mx_in 447 (by decide +kernel) rfl
theorem wm_Bo_leastColumn : Cond.instanceMethod ⟨"PegBoards$Board", "leastColumn", "()I"⟩ ∈ mx_WS := mx_in 448 (by decide +kernel) rfl
theorem wv_Bo_leastColumn : Cond.selects "PegBoards$Board" ⟨"PegBoards$Board", "leastColumn", "()I"⟩ ⟨"PegBoards$Board", "leastColumn", "()I"⟩ ∈ mx_WS := mx_in 449 (by decide +kernel) rfl
theorem kv_Sy_58 : mx_cvb "PegBoards$Symmetries" 58 mY_Bo_leastColumn = true := by
  simp only [mx_cvb, Bool.and_eq_true, decide_eq_true_eq]
  exact ⟨⟨wl_Sy_58, wm_Bo_leastColumn⟩, wv_Bo_leastColumn⟩
theorem wc_Sy_addIfSameHoles : Cond.code ⟨"PegBoards$Symmetries", "addIfSameHoles", "(LPegBoards$Board;)V"⟩ prog_6_method_7_code 4 none ∈ mx_WS := mx_in 454 (by decide +kernel) rfl
theorem kd_Sy_addIfSameHoles : mx_cdb mY_Sy_addIfSameHoles 1 = true := by
  simp only [mx_cdb, Bool.and_eq_true, decide_eq_true_eq]
  exact ⟨⟨⟨⟨⟨wi_Sy, wc_Sy_addIfSameHoles⟩, by decide +kernel⟩, by decide +kernel⟩, by decide +kernel⟩, by decide +kernel⟩
theorem wl_Sy_61 : Cond.methodLink "PegBoards$Symmetries" 61 ⟨"PegBoards$Symmetries", "addIfSameHoles", "(LPegBoards$Board;)V"⟩ ∈ mx_WS := mx_in 451 (by decide +kernel) rfl
theorem wm_Sy_addIfSameHoles : Cond.instanceMethod ⟨"PegBoards$Symmetries", "addIfSameHoles", "(LPegBoards$Board;)V"⟩ ∈ mx_WS := mx_in 453 (by decide +kernel) rfl
theorem wv_Sy_addIfSameHoles : Cond.selects "PegBoards$Symmetries" ⟨"PegBoards$Symmetries", "addIfSameHoles", "(LPegBoards$Board;)V"⟩ ⟨"PegBoards$Symmetries", "addIfSameHoles", "(LPegBoards$Board;)V"⟩ ∈ mx_WS := mx_in 5 (by decide +kernel) rfl
theorem kv_Sy_61 : mx_cvb "PegBoards$Symmetries" 61 mY_Sy_addIfSameHoles = true := by
  simp only [mx_cvb, Bool.and_eq_true, decide_eq_true_eq]
  exact ⟨⟨wl_Sy_61, wm_Sy_addIfSameHoles⟩, wv_Sy_addIfSameHoles⟩
theorem wl_Sy_72 : Cond.methodLink "PegBoards$Symmetries" 72 ⟨"PegBoards$Board", "numberAt", "(II)I"⟩ ∈ mx_WS := mx_in 455 (by decide +kernel) rfl
theorem kv_Sy_72 : mx_cvb "PegBoards$Symmetries" 72 mY_Bo_numberAt = true := by
  simp only [mx_cvb, Bool.and_eq_true, decide_eq_true_eq]
  exact ⟨⟨wl_Sy_72, wm_Bo_numberAt⟩, wv_Bo_numberAt⟩
theorem wc_Ju_size : Cond.code ⟨"PegBoards$Jumps", "size", "()I"⟩ prog_4_method_5_code 1 (some .int) ∈ mx_WS := mx_in 459 (by decide +kernel) rfl
theorem kd_Ju_size : mx_cdb mY_Ju_size 0 = true := by
  simp only [mx_cdb, Bool.and_eq_true, decide_eq_true_eq]
  exact ⟨⟨⟨⟨⟨wi_Ju, wc_Ju_size⟩, by decide +kernel⟩, by decide +kernel⟩, by decide +kernel⟩, by decide +kernel⟩
theorem wl_Pe_97 : Cond.methodLink "PegBoards" 97 ⟨"PegBoards$Jumps", "size", "()I"⟩ ∈ mx_WS := mx_in 456 (by decide +kernel) rfl
theorem wm_Ju_size : Cond.instanceMethod ⟨"PegBoards$Jumps", "size", "()I"⟩ ∈ mx_WS := mx_in 457 (by decide +kernel) rfl
theorem wv_Ju_size : Cond.selects "PegBoards$Jumps" ⟨"PegBoards$Jumps", "size", "()I"⟩ ⟨"PegBoards$Jumps", "size", "()I"⟩ ∈ mx_WS := mx_in 458 (by decide +kernel) rfl
theorem kv_Pe_97 : mx_cvb "PegBoards" 97 mY_Ju_size = true := by
  simp only [mx_cvb, Bool.and_eq_true, decide_eq_true_eq]
  exact ⟨⟨wl_Pe_97, wm_Ju_size⟩, wv_Ju_size⟩
theorem wc_Pe_jump : Cond.code ⟨"PegBoards", "jump", "(II)I"⟩ prog_1_method_6_code 3 (some .int) ∈ mx_WS := mx_in 467 (by decide +kernel) rfl
theorem kd_Pe_jump : mx_cdb mY_Pe_jump 2 = true := by
  simp only [mx_cdb, Bool.and_eq_true, decide_eq_true_eq]
  exact ⟨⟨⟨⟨⟨wi_Pe, wc_Pe_jump⟩, by decide +kernel⟩, by decide +kernel⟩, by decide +kernel⟩, by decide +kernel⟩
theorem wl_La_21 : Cond.methodLink "PegBoardsLaw" 21 ⟨"PegBoards", "jump", "(II)I"⟩ ∈ mx_WS := mx_in 464 (by decide +kernel) rfl
theorem wm_Pe_jump : Cond.instanceMethod ⟨"PegBoards", "jump", "(II)I"⟩ ∈ mx_WS := mx_in 465 (by decide +kernel) rfl
theorem wv_Pe_jump : Cond.selects "PegBoards" ⟨"PegBoards", "jump", "(II)I"⟩ ⟨"PegBoards", "jump", "(II)I"⟩ ∈ mx_WS := mx_in 466 (by decide +kernel) rfl
theorem kv_La_21 : mx_cvb "PegBoardsLaw" 21 mY_Pe_jump = true := by
  simp only [mx_cvb, Bool.and_eq_true, decide_eq_true_eq]
  exact ⟨⟨wl_La_21, wm_Pe_jump⟩, wv_Pe_jump⟩
theorem wc_Pe_requireJump : Cond.code ⟨"PegBoards", "requireJump", "(I)V"⟩ prog_1_method_24_code 2 none ∈ mx_WS := mx_in 471 (by decide +kernel) rfl
theorem kd_Pe_requireJump : mx_cdb mY_Pe_requireJump 1 = true := by
  simp only [mx_cdb, Bool.and_eq_true, decide_eq_true_eq]
  exact ⟨⟨⟨⟨⟨wi_Pe, wc_Pe_requireJump⟩, by decide +kernel⟩, by decide +kernel⟩, by decide +kernel⟩, by decide +kernel⟩
theorem wl_Pe_104 : Cond.methodLink "PegBoards" 104 ⟨"PegBoards", "requireJump", "(I)V"⟩ ∈ mx_WS := mx_in 468 (by decide +kernel) rfl
theorem wm_Pe_requireJump : Cond.instanceMethod ⟨"PegBoards", "requireJump", "(I)V"⟩ ∈ mx_WS := mx_in 470 (by decide +kernel) rfl
theorem wv_Pe_requireJump : Cond.selects "PegBoards" ⟨"PegBoards", "requireJump", "(I)V"⟩ ⟨"PegBoards", "requireJump", "(I)V"⟩ ∈ mx_WS := mx_in 6 (by decide +kernel) rfl
theorem kv_Pe_104 : mx_cvb "PegBoards" 104 mY_Pe_requireJump = true := by
  simp only [mx_cvb, Bool.and_eq_true, decide_eq_true_eq]
  exact ⟨⟨wl_Pe_104, wm_Pe_requireJump⟩, wv_Pe_requireJump⟩
theorem wc_Ju_from : Cond.code ⟨"PegBoards$Jumps", "from", "(I)I"⟩ prog_4_method_6_code 2 (some .int) ∈ mx_WS := mx_in 491 (by decide +kernel) rfl
theorem kd_Ju_from : mx_cdb mY_Ju_from 1 = true := by
  simp only [mx_cdb, Bool.and_eq_true, decide_eq_true_eq]
  exact ⟨⟨⟨⟨⟨wi_Ju, wc_Ju_from⟩, by decide +kernel⟩, by decide +kernel⟩, by decide +kernel⟩, by decide +kernel⟩
theorem wl_Pe_108 : Cond.methodLink "PegBoards" 108 ⟨"PegBoards$Jumps", "from", "(I)I"⟩ ∈ mx_WS := mx_in 488 (by decide +kernel) rfl
theorem wm_Ju_from : Cond.instanceMethod ⟨"PegBoards$Jumps", "from", "(I)I"⟩ ∈ mx_WS := mx_in 489 (by decide +kernel) rfl
theorem wv_Ju_from : Cond.selects "PegBoards$Jumps" ⟨"PegBoards$Jumps", "from", "(I)I"⟩ ⟨"PegBoards$Jumps", "from", "(I)I"⟩ ∈ mx_WS := mx_in 490 (by decide +kernel) rfl
theorem kv_Pe_108 : mx_cvb "PegBoards" 108 mY_Ju_from = true := by
  simp only [mx_cvb, Bool.and_eq_true, decide_eq_true_eq]
  exact ⟨⟨wl_Pe_108, wm_Ju_from⟩, wv_Ju_from⟩
theorem wc_Ju_over : Cond.code ⟨"PegBoards$Jumps", "over", "(I)I"⟩ prog_4_method_7_code 2 (some .int) ∈ mx_WS := mx_in 495 (by decide +kernel) rfl
theorem kd_Ju_over : mx_cdb mY_Ju_over 1 = true := by
  simp only [mx_cdb, Bool.and_eq_true, decide_eq_true_eq]
  exact ⟨⟨⟨⟨⟨wi_Ju, wc_Ju_over⟩, by decide +kernel⟩, by decide +kernel⟩, by decide +kernel⟩, by decide +kernel⟩
theorem wl_Pe_112 : Cond.methodLink "PegBoards" 112 ⟨"PegBoards$Jumps", "over", "(I)I"⟩ ∈ mx_WS := mx_in 492 (by decide +kernel) rfl
theorem wm_Ju_over : Cond.instanceMethod ⟨"PegBoards$Jumps", "over", "(I)I"⟩ ∈ mx_WS := mx_in 493 (by decide +kernel) rfl
theorem wv_Ju_over : Cond.selects "PegBoards$Jumps" ⟨"PegBoards$Jumps", "over", "(I)I"⟩ ⟨"PegBoards$Jumps", "over", "(I)I"⟩ ∈ mx_WS := mx_in 494 (by decide +kernel) rfl
theorem kv_Pe_112 : mx_cvb "PegBoards" 112 mY_Ju_over = true := by
  simp only [mx_cvb, Bool.and_eq_true, decide_eq_true_eq]
  exact ⟨⟨wl_Pe_112, wm_Ju_over⟩, wv_Ju_over⟩
theorem wc_Ju_to : Cond.code ⟨"PegBoards$Jumps", "to", "(I)I"⟩ prog_4_method_8_code 2 (some .int) ∈ mx_WS := mx_in 499 (by decide +kernel) rfl
theorem kd_Ju_to : mx_cdb mY_Ju_to 1 = true := by
  simp only [mx_cdb, Bool.and_eq_true, decide_eq_true_eq]
  exact ⟨⟨⟨⟨⟨wi_Ju, wc_Ju_to⟩, by decide +kernel⟩, by decide +kernel⟩, by decide +kernel⟩, by decide +kernel⟩
theorem wl_Pe_115 : Cond.methodLink "PegBoards" 115 ⟨"PegBoards$Jumps", "to", "(I)I"⟩ ∈ mx_WS := mx_in 496 (by decide +kernel) rfl
theorem wm_Ju_to : Cond.instanceMethod ⟨"PegBoards$Jumps", "to", "(I)I"⟩ ∈ mx_WS := mx_in 497 (by decide +kernel) rfl
theorem wv_Ju_to : Cond.selects "PegBoards$Jumps" ⟨"PegBoards$Jumps", "to", "(I)I"⟩ ⟨"PegBoards$Jumps", "to", "(I)I"⟩ ∈ mx_WS := mx_in 498 (by decide +kernel) rfl
theorem kv_Pe_115 : mx_cvb "PegBoards" 115 mY_Ju_to = true := by
  simp only [mx_cvb, Bool.and_eq_true, decide_eq_true_eq]
  exact ⟨⟨wl_Pe_115, wm_Ju_to⟩, wv_Ju_to⟩
theorem wc_Pe_place : Cond.code ⟨"PegBoards", "place", "(ZI)V"⟩ prog_1_method_7_code 3 none ∈ mx_WS := mx_in 507 (by decide +kernel) rfl
theorem kd_Pe_place : mx_cdb mY_Pe_place 2 = true := by
  simp only [mx_cdb, Bool.and_eq_true, decide_eq_true_eq]
  exact ⟨⟨⟨⟨⟨wi_Pe, wc_Pe_place⟩, by decide +kernel⟩, by decide +kernel⟩, by decide +kernel⟩, by decide +kernel⟩
theorem wl_La_26 : Cond.methodLink "PegBoardsLaw" 26 ⟨"PegBoards", "place", "(ZI)V"⟩ ∈ mx_WS := mx_in 504 (by decide +kernel) rfl
theorem wm_Pe_place : Cond.instanceMethod ⟨"PegBoards", "place", "(ZI)V"⟩ ∈ mx_WS := mx_in 505 (by decide +kernel) rfl
theorem wv_Pe_place : Cond.selects "PegBoards" ⟨"PegBoards", "place", "(ZI)V"⟩ ⟨"PegBoards", "place", "(ZI)V"⟩ ∈ mx_WS := mx_in 506 (by decide +kernel) rfl
theorem kv_La_26 : mx_cvb "PegBoardsLaw" 26 mY_Pe_place = true := by
  simp only [mx_cvb, Bool.and_eq_true, decide_eq_true_eq]
  exact ⟨⟨wl_La_26, wm_Pe_place⟩, wv_Pe_place⟩
theorem wc_Pe_requirePosition : Cond.code ⟨"PegBoards", "requirePosition", "(I)V"⟩ prog_1_method_23_code 2 none ∈ mx_WS := mx_in 511 (by decide +kernel) rfl
theorem kd_Pe_requirePosition : mx_cdb mY_Pe_requirePosition 1 = true := by
  simp only [mx_cdb, Bool.and_eq_true, decide_eq_true_eq]
  exact ⟨⟨⟨⟨⟨wi_Pe, wc_Pe_requirePosition⟩, by decide +kernel⟩, by decide +kernel⟩, by decide +kernel⟩, by decide +kernel⟩
theorem wl_Pe_123 : Cond.methodLink "PegBoards" 123 ⟨"PegBoards", "requirePosition", "(I)V"⟩ ∈ mx_WS := mx_in 508 (by decide +kernel) rfl
theorem wm_Pe_requirePosition : Cond.instanceMethod ⟨"PegBoards", "requirePosition", "(I)V"⟩ ∈ mx_WS := mx_in 510 (by decide +kernel) rfl
theorem wv_Pe_requirePosition : Cond.selects "PegBoards" ⟨"PegBoards", "requirePosition", "(I)V"⟩ ⟨"PegBoards", "requirePosition", "(I)V"⟩ ∈ mx_WS := mx_in 7 (by decide +kernel) rfl
theorem kv_Pe_123 : mx_cvb "PegBoards" 123 mY_Pe_requirePosition = true := by
  simp only [mx_cvb, Bool.and_eq_true, decide_eq_true_eq]
  exact ⟨⟨wl_Pe_123, wm_Pe_requirePosition⟩, wv_Pe_requirePosition⟩
theorem wc_Bo_allHoles : Cond.code ⟨"PegBoards$Board", "allHoles", "()I"⟩ prog_2_method_10_code 1 (some .int) ∈ mx_WS := mx_in 515 (by decide +kernel) rfl
theorem kd_Bo_allHoles : mx_cdb mY_Bo_allHoles 0 = true := by
  simp only [mx_cdb, Bool.and_eq_true, decide_eq_true_eq]
  exact ⟨⟨⟨⟨⟨wi_Bo, wc_Bo_allHoles⟩, by decide +kernel⟩, by decide +kernel⟩, by decide +kernel⟩, by decide +kernel⟩
theorem wl_Pe_210 : Cond.methodLink "PegBoards" 210 ⟨"PegBoards$Board", "allHoles", "()I"⟩ ∈ mx_WS := mx_in 512 (by decide +kernel) rfl
theorem wm_Bo_allHoles : Cond.instanceMethod ⟨"PegBoards$Board", "allHoles", "()I"⟩ ∈ mx_WS := mx_in 513 (by decide +kernel) rfl
theorem wv_Bo_allHoles : Cond.selects "PegBoards$Board" ⟨"PegBoards$Board", "allHoles", "()I"⟩ ⟨"PegBoards$Board", "allHoles", "()I"⟩ ∈ mx_WS := mx_in 514 (by decide +kernel) rfl
theorem kv_Pe_210 : mx_cvb "PegBoards" 210 mY_Bo_allHoles = true := by
  simp only [mx_cvb, Bool.and_eq_true, decide_eq_true_eq]
  exact ⟨⟨wl_Pe_210, wm_Bo_allHoles⟩, wv_Bo_allHoles⟩
theorem wc_Pe_after : Cond.code ⟨"PegBoards", "after", "(II)I"⟩ prog_1_method_8_code 3 (some .int) ∈ mx_WS := mx_in 523 (by decide +kernel) rfl
theorem kd_Pe_after : mx_cdb mY_Pe_after 2 = true := by
  simp only [mx_cdb, Bool.and_eq_true, decide_eq_true_eq]
  exact ⟨⟨⟨⟨⟨wi_Pe, wc_Pe_after⟩, by decide +kernel⟩, by decide +kernel⟩, by decide +kernel⟩, by decide +kernel⟩
theorem wl_La_30 : Cond.methodLink "PegBoardsLaw" 30 ⟨"PegBoards", "after", "(II)I"⟩ ∈ mx_WS := mx_in 520 (by decide +kernel) rfl
theorem wm_Pe_after : Cond.instanceMethod ⟨"PegBoards", "after", "(II)I"⟩ ∈ mx_WS := mx_in 521 (by decide +kernel) rfl
theorem wv_Pe_after : Cond.selects "PegBoards" ⟨"PegBoards", "after", "(II)I"⟩ ⟨"PegBoards", "after", "(II)I"⟩ ∈ mx_WS := mx_in 522 (by decide +kernel) rfl
theorem kv_La_30 : mx_cvb "PegBoardsLaw" 30 mY_Pe_after = true := by
  simp only [mx_cvb, Bool.and_eq_true, decide_eq_true_eq]
  exact ⟨⟨wl_La_30, wm_Pe_after⟩, wv_Pe_after⟩
theorem wc_Ju_make : Cond.code ⟨"PegBoards$Jumps", "make", "(II)I"⟩ prog_4_method_9_code 3 (some .int) ∈ mx_WS := mx_in 527 (by decide +kernel) rfl
theorem kd_Ju_make : mx_cdb mY_Ju_make 2 = true := by
  simp only [mx_cdb, Bool.and_eq_true, decide_eq_true_eq]
  exact ⟨⟨⟨⟨⟨wi_Ju, wc_Ju_make⟩, by decide +kernel⟩, by decide +kernel⟩, by decide +kernel⟩, by decide +kernel⟩
theorem wl_Pe_126 : Cond.methodLink "PegBoards" 126 ⟨"PegBoards$Jumps", "make", "(II)I"⟩ ∈ mx_WS := mx_in 524 (by decide +kernel) rfl
theorem wm_Ju_make : Cond.instanceMethod ⟨"PegBoards$Jumps", "make", "(II)I"⟩ ∈ mx_WS := mx_in 525 (by decide +kernel) rfl
theorem wv_Ju_make : Cond.selects "PegBoards$Jumps" ⟨"PegBoards$Jumps", "make", "(II)I"⟩ ⟨"PegBoards$Jumps", "make", "(II)I"⟩ ∈ mx_WS := mx_in 526 (by decide +kernel) rfl
theorem kv_Pe_126 : mx_cvb "PegBoards" 126 mY_Ju_make = true := by
  simp only [mx_cvb, Bool.and_eq_true, decide_eq_true_eq]
  exact ⟨⟨wl_Pe_126, wm_Ju_make⟩, wv_Ju_make⟩
theorem wc_Pe_count : Cond.code ⟨"PegBoards", "count", "(I)I"⟩ prog_1_method_9_code 2 (some .int) ∈ mx_WS := mx_in 534 (by decide +kernel) rfl
theorem kd_Pe_count : mx_cdb mY_Pe_count 1 = true := by
  simp only [mx_cdb, Bool.and_eq_true, decide_eq_true_eq]
  exact ⟨⟨⟨⟨⟨wi_Pe, wc_Pe_count⟩, by decide +kernel⟩, by decide +kernel⟩, by decide +kernel⟩, by decide +kernel⟩
theorem wl_La_33 : Cond.methodLink "PegBoardsLaw" 33 ⟨"PegBoards", "count", "(I)I"⟩ ∈ mx_WS := mx_in 531 (by decide +kernel) rfl
theorem wm_Pe_count : Cond.instanceMethod ⟨"PegBoards", "count", "(I)I"⟩ ∈ mx_WS := mx_in 532 (by decide +kernel) rfl
theorem wv_Pe_count : Cond.selects "PegBoards" ⟨"PegBoards", "count", "(I)I"⟩ ⟨"PegBoards", "count", "(I)I"⟩ ∈ mx_WS := mx_in 533 (by decide +kernel) rfl
theorem kv_La_33 : mx_cvb "PegBoardsLaw" 33 mY_Pe_count = true := by
  simp only [mx_cvb, Bool.and_eq_true, decide_eq_true_eq]
  exact ⟨⟨wl_La_33, wm_Pe_count⟩, wv_Pe_count⟩
theorem wc_Pe_reachWithin : Cond.code ⟨"PegBoards", "reachWithin", "(I)V"⟩ prog_1_method_21_code 2 none ∈ mx_WS := mx_in 538 (by decide +kernel) rfl
theorem kd_Pe_reachWithin : mx_cdb mY_Pe_reachWithin 1 = true := by
  simp only [mx_cdb, Bool.and_eq_true, decide_eq_true_eq]
  exact ⟨⟨⟨⟨⟨wi_Pe, wc_Pe_reachWithin⟩, by decide +kernel⟩, by decide +kernel⟩, by decide +kernel⟩, by decide +kernel⟩
theorem wl_Pe_129 : Cond.methodLink "PegBoards" 129 ⟨"PegBoards", "reachWithin", "(I)V"⟩ ∈ mx_WS := mx_in 535 (by decide +kernel) rfl
theorem wm_Pe_reachWithin : Cond.instanceMethod ⟨"PegBoards", "reachWithin", "(I)V"⟩ ∈ mx_WS := mx_in 537 (by decide +kernel) rfl
theorem wv_Pe_reachWithin : Cond.selects "PegBoards" ⟨"PegBoards", "reachWithin", "(I)V"⟩ ⟨"PegBoards", "reachWithin", "(I)V"⟩ ∈ mx_WS := mx_in 8 (by decide +kernel) rfl
theorem kv_Pe_129 : mx_cvb "PegBoards" 129 mY_Pe_reachWithin = true := by
  simp only [mx_cvb, Bool.and_eq_true, decide_eq_true_eq]
  exact ⟨⟨wl_Pe_129, wm_Pe_reachWithin⟩, wv_Pe_reachWithin⟩
theorem wc_Pe_requireFrozen : Cond.code ⟨"PegBoards", "requireFrozen", "()V"⟩ prog_1_method_22_code 1 none ∈ mx_WS := mx_in 542 (by decide +kernel) rfl
theorem kd_Pe_requireFrozen : mx_cdb mY_Pe_requireFrozen 0 = true := by
  simp only [mx_cdb, Bool.and_eq_true, decide_eq_true_eq]
  exact ⟨⟨⟨⟨⟨wi_Pe, wc_Pe_requireFrozen⟩, by decide +kernel⟩, by decide +kernel⟩, by decide +kernel⟩, by decide +kernel⟩
theorem wl_Pe_160 : Cond.methodLink "PegBoards" 160 ⟨"PegBoards", "requireFrozen", "()V"⟩ ∈ mx_WS := mx_in 539 (by decide +kernel) rfl
theorem wm_Pe_requireFrozen : Cond.instanceMethod ⟨"PegBoards", "requireFrozen", "()V"⟩ ∈ mx_WS := mx_in 541 (by decide +kernel) rfl
theorem wv_Pe_requireFrozen : Cond.selects "PegBoards" ⟨"PegBoards", "requireFrozen", "()V"⟩ ⟨"PegBoards", "requireFrozen", "()V"⟩ ∈ mx_WS := mx_in 9 (by decide +kernel) rfl
theorem kv_Pe_160 : mx_cvb "PegBoards" 160 mY_Pe_requireFrozen = true := by
  simp only [mx_cvb, Bool.and_eq_true, decide_eq_true_eq]
  exact ⟨⟨wl_Pe_160, wm_Pe_requireFrozen⟩, wv_Pe_requireFrozen⟩
theorem wc_Bo_isFrozen : Cond.code ⟨"PegBoards$Board", "isFrozen", "()Z"⟩ prog_2_method_8_code 1 (some .boolean) ∈ mx_WS := mx_in 546 (by decide +kernel) rfl
theorem kd_Bo_isFrozen : mx_cdb mY_Bo_isFrozen 0 = true := by
  simp only [mx_cdb, Bool.and_eq_true, decide_eq_true_eq]
  exact ⟨⟨⟨⟨⟨wi_Bo, wc_Bo_isFrozen⟩, by decide +kernel⟩, by decide +kernel⟩, by decide +kernel⟩, by decide +kernel⟩
theorem wl_Pe_205 : Cond.methodLink "PegBoards" 205 ⟨"PegBoards$Board", "isFrozen", "()Z"⟩ ∈ mx_WS := mx_in 543 (by decide +kernel) rfl
theorem wm_Bo_isFrozen : Cond.instanceMethod ⟨"PegBoards$Board", "isFrozen", "()Z"⟩ ∈ mx_WS := mx_in 544 (by decide +kernel) rfl
theorem wv_Bo_isFrozen : Cond.selects "PegBoards$Board" ⟨"PegBoards$Board", "isFrozen", "()Z"⟩ ⟨"PegBoards$Board", "isFrozen", "()Z"⟩ ∈ mx_WS := mx_in 545 (by decide +kernel) rfl
theorem kv_Pe_205 : mx_cvb "PegBoards" 205 mY_Bo_isFrozen = true := by
  simp only [mx_cvb, Bool.and_eq_true, decide_eq_true_eq]
  exact ⟨⟨wl_Pe_205, wm_Bo_isFrozen⟩, wv_Bo_isFrozen⟩
theorem wi_Re : Cond.initialized "PegBoards$Reaching" ∈ mx_WS := mx_in 46 (by decide +kernel) rfl
theorem wc_Re_run : Cond.code ⟨"PegBoards$Reaching", "run", "(LPegBoards$Jumps;II)V"⟩ prog_5_method_2_code 5 none ∈ mx_WS := mx_in 552 (by decide +kernel) rfl
theorem kd_Re_run : mx_cdb mY_Re_run 3 = true := by
  simp only [mx_cdb, Bool.and_eq_true, decide_eq_true_eq]
  exact ⟨⟨⟨⟨⟨wi_Re, wc_Re_run⟩, by decide +kernel⟩, by decide +kernel⟩, by decide +kernel⟩, by decide +kernel⟩
theorem wl_Pe_201 : Cond.methodLink "PegBoards" 201 ⟨"PegBoards$Reaching", "run", "(LPegBoards$Jumps;II)V"⟩ ∈ mx_WS := mx_in 549 (by decide +kernel) rfl
theorem wm_Re_run : Cond.instanceMethod ⟨"PegBoards$Reaching", "run", "(LPegBoards$Jumps;II)V"⟩ ∈ mx_WS := mx_in 550 (by decide +kernel) rfl
theorem wv_Re_run : Cond.selects "PegBoards$Reaching" ⟨"PegBoards$Reaching", "run", "(LPegBoards$Jumps;II)V"⟩ ⟨"PegBoards$Reaching", "run", "(LPegBoards$Jumps;II)V"⟩ ∈ mx_WS := mx_in 551 (by decide +kernel) rfl
theorem kv_Pe_201 : mx_cvb "PegBoards" 201 mY_Re_run = true := by
  simp only [mx_cvb, Bool.and_eq_true, decide_eq_true_eq]
  exact ⟨⟨wl_Pe_201, wm_Re_run⟩, wv_Re_run⟩
theorem wi_Fo : Cond.initialized "PegBoards$Found" ∈ mx_WS := mx_in 47 (by decide +kernel) rfl
theorem wc_Fo_forget : Cond.code ⟨"PegBoards$Found", "forget", "()V"⟩ prog_3_method_2_code 1 none ∈ mx_WS := mx_in 556 (by decide +kernel) rfl
theorem kd_Fo_forget : mx_cdb mY_Fo_forget 0 = true := by
  simp only [mx_cdb, Bool.and_eq_true, decide_eq_true_eq]
  exact ⟨⟨⟨⟨⟨wi_Fo, wc_Fo_forget⟩, by decide +kernel⟩, by decide +kernel⟩, by decide +kernel⟩, by decide +kernel⟩
theorem wl_Re_34 : Cond.methodLink "PegBoards$Reaching" 34 ⟨"PegBoards$Found", "forget", "()V"⟩ ∈ mx_WS := mx_in 553 (by decide +kernel) rfl
theorem wm_Fo_forget : Cond.instanceMethod ⟨"PegBoards$Found", "forget", "()V"⟩ ∈ mx_WS := mx_in 554 (by decide +kernel) rfl
theorem wv_Fo_forget : Cond.selects "PegBoards$Found" ⟨"PegBoards$Found", "forget", "()V"⟩ ⟨"PegBoards$Found", "forget", "()V"⟩ ∈ mx_WS := mx_in 555 (by decide +kernel) rfl
theorem kv_Re_34 : mx_cvb "PegBoards$Reaching" 34 mY_Fo_forget = true := by
  simp only [mx_cvb, Bool.and_eq_true, decide_eq_true_eq]
  exact ⟨⟨wl_Re_34, wm_Fo_forget⟩, wv_Fo_forget⟩
theorem wl_Fo_18 : Cond.methodLink "PegBoards$Found" 18 ⟨"java/util/Arrays", "fill", "([II)V"⟩ ∈ mx_WS := mx_in 557 (by decide +kernel) rfl
theorem ks_Fo_18 : mx_csb "PegBoards$Found" 18 mY_Ar_fill = true := by
  simp only [mx_csb, Bool.and_eq_true, decide_eq_true_eq]
  exact ⟨wl_Fo_18, wt_Ar_fill⟩
theorem wc_Fo_numberWithin : Cond.code ⟨"PegBoards$Found", "numberWithin", "(II)I"⟩ prog_3_method_6_code 4 (some .int) ∈ mx_WS := mx_in 561 (by decide +kernel) rfl
theorem kd_Fo_numberWithin : mx_cdb mY_Fo_numberWithin 2 = true := by
  simp only [mx_cdb, Bool.and_eq_true, decide_eq_true_eq]
  exact ⟨⟨⟨⟨⟨wi_Fo, wc_Fo_numberWithin⟩, by decide +kernel⟩, by decide +kernel⟩, by decide +kernel⟩, by decide +kernel⟩
theorem wl_Re_41 : Cond.methodLink "PegBoards$Reaching" 41 ⟨"PegBoards$Found", "numberWithin", "(II)I"⟩ ∈ mx_WS := mx_in 558 (by decide +kernel) rfl
theorem wm_Fo_numberWithin : Cond.instanceMethod ⟨"PegBoards$Found", "numberWithin", "(II)I"⟩ ∈ mx_WS := mx_in 559 (by decide +kernel) rfl
theorem wv_Fo_numberWithin : Cond.selects "PegBoards$Found" ⟨"PegBoards$Found", "numberWithin", "(II)I"⟩ ⟨"PegBoards$Found", "numberWithin", "(II)I"⟩ ∈ mx_WS := mx_in 560 (by decide +kernel) rfl
theorem kv_Re_41 : mx_cvb "PegBoards$Reaching" 41 mY_Fo_numberWithin = true := by
  simp only [mx_cvb, Bool.and_eq_true, decide_eq_true_eq]
  exact ⟨⟨wl_Re_41, wm_Fo_numberWithin⟩, wv_Fo_numberWithin⟩
theorem wc_Fo_slotFor : Cond.code ⟨"PegBoards$Found", "slotFor", "(I)I"⟩ prog_3_method_7_code 4 (some .int) ∈ mx_WS := mx_in 565 (by decide +kernel) rfl
theorem kd_Fo_slotFor : mx_cdb mY_Fo_slotFor 1 = true := by
  simp only [mx_cdb, Bool.and_eq_true, decide_eq_true_eq]
  exact ⟨⟨⟨⟨⟨wi_Fo, wc_Fo_slotFor⟩, by decide +kernel⟩, by decide +kernel⟩, by decide +kernel⟩, by decide +kernel⟩
theorem wl_Fo_28 : Cond.methodLink "PegBoards$Found" 28 ⟨"PegBoards$Found", "slotFor", "(I)I"⟩ ∈ mx_WS := mx_in 562 (by decide +kernel) rfl
theorem wm_Fo_slotFor : Cond.instanceMethod ⟨"PegBoards$Found", "slotFor", "(I)I"⟩ ∈ mx_WS := mx_in 564 (by decide +kernel) rfl
theorem wv_Fo_slotFor : Cond.selects "PegBoards$Found" ⟨"PegBoards$Found", "slotFor", "(I)I"⟩ ⟨"PegBoards$Found", "slotFor", "(I)I"⟩ ∈ mx_WS := mx_in 10 (by decide +kernel) rfl
theorem kv_Fo_28 : mx_cvb "PegBoards$Found" 28 mY_Fo_slotFor = true := by
  simp only [mx_cvb, Bool.and_eq_true, decide_eq_true_eq]
  exact ⟨⟨wl_Fo_28, wm_Fo_slotFor⟩, wv_Fo_slotFor⟩
theorem wc_Fo_isFreeOrHas : Cond.code ⟨"PegBoards$Found", "isFreeOrHas", "(II)Z"⟩ prog_3_method_8_code 3 (some .boolean) ∈ mx_WS := mx_in 569 (by decide +kernel) rfl
theorem kd_Fo_isFreeOrHas : mx_cdb mY_Fo_isFreeOrHas 2 = true := by
  simp only [mx_cdb, Bool.and_eq_true, decide_eq_true_eq]
  exact ⟨⟨⟨⟨⟨wi_Fo, wc_Fo_isFreeOrHas⟩, by decide +kernel⟩, by decide +kernel⟩, by decide +kernel⟩, by decide +kernel⟩
theorem wl_Fo_32 : Cond.methodLink "PegBoards$Found" 32 ⟨"PegBoards$Found", "isFreeOrHas", "(II)Z"⟩ ∈ mx_WS := mx_in 566 (by decide +kernel) rfl
theorem wm_Fo_isFreeOrHas : Cond.instanceMethod ⟨"PegBoards$Found", "isFreeOrHas", "(II)Z"⟩ ∈ mx_WS := mx_in 568 (by decide +kernel) rfl
theorem wv_Fo_isFreeOrHas : Cond.selects "PegBoards$Found" ⟨"PegBoards$Found", "isFreeOrHas", "(II)Z"⟩ ⟨"PegBoards$Found", "isFreeOrHas", "(II)Z"⟩ ∈ mx_WS := mx_in 11 (by decide +kernel) rfl
theorem kv_Fo_32 : mx_cvb "PegBoards$Found" 32 mY_Fo_isFreeOrHas = true := by
  simp only [mx_cvb, Bool.and_eq_true, decide_eq_true_eq]
  exact ⟨⟨wl_Fo_32, wm_Fo_isFreeOrHas⟩, wv_Fo_isFreeOrHas⟩
theorem wc_Fo_size : Cond.code ⟨"PegBoards$Found", "size", "()I"⟩ prog_3_method_3_code 1 (some .int) ∈ mx_WS := mx_in 573 (by decide +kernel) rfl
theorem kd_Fo_size : mx_cdb mY_Fo_size 0 = true := by
  simp only [mx_cdb, Bool.and_eq_true, decide_eq_true_eq]
  exact ⟨⟨⟨⟨⟨wi_Fo, wc_Fo_size⟩, by decide +kernel⟩, by decide +kernel⟩, by decide +kernel⟩, by decide +kernel⟩
theorem wl_Re_45 : Cond.methodLink "PegBoards$Reaching" 45 ⟨"PegBoards$Found", "size", "()I"⟩ ∈ mx_WS := mx_in 570 (by decide +kernel) rfl
theorem wm_Fo_size : Cond.instanceMethod ⟨"PegBoards$Found", "size", "()I"⟩ ∈ mx_WS := mx_in 571 (by decide +kernel) rfl
theorem wv_Fo_size : Cond.selects "PegBoards$Found" ⟨"PegBoards$Found", "size", "()I"⟩ ⟨"PegBoards$Found", "size", "()I"⟩ ∈ mx_WS := mx_in 572 (by decide +kernel) rfl
theorem kv_Re_45 : mx_cvb "PegBoards$Reaching" 45 mY_Fo_size = true := by
  simp only [mx_cvb, Bool.and_eq_true, decide_eq_true_eq]
  exact ⟨⟨wl_Re_45, wm_Fo_size⟩, wv_Fo_size⟩
theorem wc_Re_goOnFrom : Cond.code ⟨"PegBoards$Reaching", "goOnFrom", "(ILPegBoards$Jumps;I)V"⟩ prog_5_method_3_code 9 none ∈ mx_WS := mx_in 577 (by decide +kernel) rfl
theorem kd_Re_goOnFrom : mx_cdb mY_Re_goOnFrom 3 = true := by
  simp only [mx_cdb, Bool.and_eq_true, decide_eq_true_eq]
  exact ⟨⟨⟨⟨⟨wi_Re, wc_Re_goOnFrom⟩, by decide +kernel⟩, by decide +kernel⟩, by decide +kernel⟩, by decide +kernel⟩
theorem wl_Re_49 : Cond.methodLink "PegBoards$Reaching" 49 ⟨"PegBoards$Reaching", "goOnFrom", "(ILPegBoards$Jumps;I)V"⟩ ∈ mx_WS := mx_in 574 (by decide +kernel) rfl
theorem wm_Re_goOnFrom : Cond.instanceMethod ⟨"PegBoards$Reaching", "goOnFrom", "(ILPegBoards$Jumps;I)V"⟩ ∈ mx_WS := mx_in 576 (by decide +kernel) rfl
theorem wv_Re_goOnFrom : Cond.selects "PegBoards$Reaching" ⟨"PegBoards$Reaching", "goOnFrom", "(ILPegBoards$Jumps;I)V"⟩ ⟨"PegBoards$Reaching", "goOnFrom", "(ILPegBoards$Jumps;I)V"⟩ ∈ mx_WS := mx_in 12 (by decide +kernel) rfl
theorem kv_Re_49 : mx_cvb "PegBoards$Reaching" 49 mY_Re_goOnFrom = true := by
  simp only [mx_cvb, Bool.and_eq_true, decide_eq_true_eq]
  exact ⟨⟨wl_Re_49, wm_Re_goOnFrom⟩, wv_Re_goOnFrom⟩
theorem wc_Fo_positionOf : Cond.code ⟨"PegBoards$Found", "positionOf", "(I)I"⟩ prog_3_method_4_code 2 (some .int) ∈ mx_WS := mx_in 581 (by decide +kernel) rfl
theorem kd_Fo_positionOf : mx_cdb mY_Fo_positionOf 1 = true := by
  simp only [mx_cdb, Bool.and_eq_true, decide_eq_true_eq]
  exact ⟨⟨⟨⟨⟨wi_Fo, wc_Fo_positionOf⟩, by decide +kernel⟩, by decide +kernel⟩, by decide +kernel⟩, by decide +kernel⟩
theorem wl_Re_53 : Cond.methodLink "PegBoards$Reaching" 53 ⟨"PegBoards$Found", "positionOf", "(I)I"⟩ ∈ mx_WS := mx_in 578 (by decide +kernel) rfl
theorem wm_Fo_positionOf : Cond.instanceMethod ⟨"PegBoards$Found", "positionOf", "(I)I"⟩ ∈ mx_WS := mx_in 579 (by decide +kernel) rfl
theorem wv_Fo_positionOf : Cond.selects "PegBoards$Found" ⟨"PegBoards$Found", "positionOf", "(I)I"⟩ ⟨"PegBoards$Found", "positionOf", "(I)I"⟩ ∈ mx_WS := mx_in 580 (by decide +kernel) rfl
theorem kv_Re_53 : mx_cvb "PegBoards$Reaching" 53 mY_Fo_positionOf = true := by
  simp only [mx_cvb, Bool.and_eq_true, decide_eq_true_eq]
  exact ⟨⟨wl_Re_53, wm_Fo_positionOf⟩, wv_Fo_positionOf⟩
theorem wl_Re_57 : Cond.methodLink "PegBoards$Reaching" 57 ⟨"PegBoards$Jumps", "size", "()I"⟩ ∈ mx_WS := mx_in 582 (by decide +kernel) rfl
theorem kv_Re_57 : mx_cvb "PegBoards$Reaching" 57 mY_Ju_size = true := by
  simp only [mx_cvb, Bool.and_eq_true, decide_eq_true_eq]
  exact ⟨⟨wl_Re_57, wm_Ju_size⟩, wv_Ju_size⟩
theorem wl_Re_60 : Cond.methodLink "PegBoards$Reaching" 60 ⟨"PegBoards$Jumps", "make", "(II)I"⟩ ∈ mx_WS := mx_in 583 (by decide +kernel) rfl
theorem kv_Re_60 : mx_cvb "PegBoards$Reaching" 60 mY_Ju_make = true := by
  simp only [mx_cvb, Bool.and_eq_true, decide_eq_true_eq]
  exact ⟨⟨wl_Re_60, wm_Ju_make⟩, wv_Ju_make⟩
theorem wc_Re_enter : Cond.code ⟨"PegBoards$Reaching", "enter", "(III)V"⟩ prog_5_method_4_code 4 none ∈ mx_WS := mx_in 587 (by decide +kernel) rfl
theorem kd_Re_enter : mx_cdb mY_Re_enter 3 = true := by
  simp only [mx_cdb, Bool.and_eq_true, decide_eq_true_eq]
  exact ⟨⟨⟨⟨⟨wi_Re, wc_Re_enter⟩, by decide +kernel⟩, by decide +kernel⟩, by decide +kernel⟩, by decide +kernel⟩
theorem wl_Re_63 : Cond.methodLink "PegBoards$Reaching" 63 ⟨"PegBoards$Reaching", "enter", "(III)V"⟩ ∈ mx_WS := mx_in 584 (by decide +kernel) rfl
theorem wm_Re_enter : Cond.instanceMethod ⟨"PegBoards$Reaching", "enter", "(III)V"⟩ ∈ mx_WS := mx_in 586 (by decide +kernel) rfl
theorem wv_Re_enter : Cond.selects "PegBoards$Reaching" ⟨"PegBoards$Reaching", "enter", "(III)V"⟩ ⟨"PegBoards$Reaching", "enter", "(III)V"⟩ ∈ mx_WS := mx_in 13 (by decide +kernel) rfl
theorem kv_Re_63 : mx_cvb "PegBoards$Reaching" 63 mY_Re_enter = true := by
  simp only [mx_cvb, Bool.and_eq_true, decide_eq_true_eq]
  exact ⟨⟨wl_Re_63, wm_Re_enter⟩, wv_Re_enter⟩
theorem wl_Re_67 : Cond.methodLink "PegBoards$Reaching" 67 ⟨"PegBoards$Jumps", "from", "(I)I"⟩ ∈ mx_WS := mx_in 588 (by decide +kernel) rfl
theorem kv_Re_67 : mx_cvb "PegBoards$Reaching" 67 mY_Ju_from = true := by
  simp only [mx_cvb, Bool.and_eq_true, decide_eq_true_eq]
  exact ⟨⟨wl_Re_67, wm_Ju_from⟩, wv_Ju_from⟩
theorem wl_Re_70 : Cond.methodLink "PegBoards$Reaching" 70 ⟨"PegBoards$Jumps", "to", "(I)I"⟩ ∈ mx_WS := mx_in 589 (by decide +kernel) rfl
theorem kv_Re_70 : mx_cvb "PegBoards$Reaching" 70 mY_Ju_to = true := by
  simp only [mx_cvb, Bool.and_eq_true, decide_eq_true_eq]
  exact ⟨⟨wl_Re_70, wm_Ju_to⟩, wv_Ju_to⟩
theorem wc_Re_addMoves : Cond.code ⟨"PegBoards$Reaching", "addMoves", "(IIII)V"⟩ prog_5_method_5_code 6 none ∈ mx_WS := mx_in 593 (by decide +kernel) rfl
theorem kd_Re_addMoves : mx_cdb mY_Re_addMoves 4 = true := by
  simp only [mx_cdb, Bool.and_eq_true, decide_eq_true_eq]
  exact ⟨⟨⟨⟨⟨wi_Re, wc_Re_addMoves⟩, by decide +kernel⟩, by decide +kernel⟩, by decide +kernel⟩, by decide +kernel⟩
theorem wl_Re_73 : Cond.methodLink "PegBoards$Reaching" 73 ⟨"PegBoards$Reaching", "addMoves", "(IIII)V"⟩ ∈ mx_WS := mx_in 590 (by decide +kernel) rfl
theorem wm_Re_addMoves : Cond.instanceMethod ⟨"PegBoards$Reaching", "addMoves", "(IIII)V"⟩ ∈ mx_WS := mx_in 592 (by decide +kernel) rfl
theorem wv_Re_addMoves : Cond.selects "PegBoards$Reaching" ⟨"PegBoards$Reaching", "addMoves", "(IIII)V"⟩ ⟨"PegBoards$Reaching", "addMoves", "(IIII)V"⟩ ∈ mx_WS := mx_in 14 (by decide +kernel) rfl
theorem kv_Re_73 : mx_cvb "PegBoards$Reaching" 73 mY_Re_addMoves = true := by
  simp only [mx_cvb, Bool.and_eq_true, decide_eq_true_eq]
  exact ⟨⟨wl_Re_73, wm_Re_addMoves⟩, wv_Re_addMoves⟩
theorem wc_Pe_contains : Cond.code ⟨"PegBoards", "contains", "(II)Z"⟩ prog_1_method_27_code 2 (some .boolean) ∈ mx_WS := mx_in 596 (by decide +kernel) rfl
theorem kd_Pe_contains : mx_cdb mY_Pe_contains 2 = true := by
  simp only [mx_cdb, Bool.and_eq_true, decide_eq_true_eq]
  exact ⟨⟨⟨⟨⟨wi_Pe, wc_Pe_contains⟩, by decide +kernel⟩, by decide +kernel⟩, by decide +kernel⟩, by decide +kernel⟩
theorem wn_Re_77 : Cond.methodLinkNest "PegBoards$Reaching" 77 ⟨"PegBoards", "contains", "(II)Z"⟩ "PegBoards" ∈ mx_NW := mx_inN 594 (by decide +kernel) rfl
theorem wt_Pe_contains : Cond.static ⟨"PegBoards", "contains", "(II)Z"⟩ ∈ mx_WS := mx_in 595 (by decide +kernel) rfl
theorem kn_Re_77 : mx_cnb "PegBoards$Reaching" 77 mY_Pe_contains = true := by
  simp only [mx_cnb, Bool.and_eq_true, decide_eq_true_eq]
  exact ⟨wn_Re_77, wt_Pe_contains⟩
theorem wc_Re_limitMet : Cond.code ⟨"PegBoards$Reaching", "limitMet", "()Z"⟩ prog_5_method_6_code 1 (some .boolean) ∈ mx_WS := mx_in 600 (by decide +kernel) rfl
theorem kd_Re_limitMet : mx_cdb mY_Re_limitMet 0 = true := by
  simp only [mx_cdb, Bool.and_eq_true, decide_eq_true_eq]
  exact ⟨⟨⟨⟨⟨wi_Re, wc_Re_limitMet⟩, by decide +kernel⟩, by decide +kernel⟩, by decide +kernel⟩, by decide +kernel⟩
theorem wl_Pe_132 : Cond.methodLink "PegBoards" 132 ⟨"PegBoards$Reaching", "limitMet", "()Z"⟩ ∈ mx_WS := mx_in 597 (by decide +kernel) rfl
theorem wm_Re_limitMet : Cond.instanceMethod ⟨"PegBoards$Reaching", "limitMet", "()Z"⟩ ∈ mx_WS := mx_in 598 (by decide +kernel) rfl
theorem wv_Re_limitMet : Cond.selects "PegBoards$Reaching" ⟨"PegBoards$Reaching", "limitMet", "()Z"⟩ ⟨"PegBoards$Reaching", "limitMet", "()Z"⟩ ∈ mx_WS := mx_in 599 (by decide +kernel) rfl
theorem kv_Pe_132 : mx_cvb "PegBoards" 132 mY_Re_limitMet = true := by
  simp only [mx_cvb, Bool.and_eq_true, decide_eq_true_eq]
  exact ⟨⟨wl_Pe_132, wm_Re_limitMet⟩, wv_Re_limitMet⟩
theorem wc_Re_size : Cond.code ⟨"PegBoards$Reaching", "size", "()I"⟩ prog_5_method_7_code 1 (some .int) ∈ mx_WS := mx_in 604 (by decide +kernel) rfl
theorem kd_Re_size : mx_cdb mY_Re_size 0 = true := by
  simp only [mx_cdb, Bool.and_eq_true, decide_eq_true_eq]
  exact ⟨⟨⟨⟨⟨wi_Re, wc_Re_size⟩, by decide +kernel⟩, by decide +kernel⟩, by decide +kernel⟩, by decide +kernel⟩
theorem wl_Pe_135 : Cond.methodLink "PegBoards" 135 ⟨"PegBoards$Reaching", "size", "()I"⟩ ∈ mx_WS := mx_in 601 (by decide +kernel) rfl
theorem wm_Re_size : Cond.instanceMethod ⟨"PegBoards$Reaching", "size", "()I"⟩ ∈ mx_WS := mx_in 602 (by decide +kernel) rfl
theorem wv_Re_size : Cond.selects "PegBoards$Reaching" ⟨"PegBoards$Reaching", "size", "()I"⟩ ⟨"PegBoards$Reaching", "size", "()I"⟩ ∈ mx_WS := mx_in 603 (by decide +kernel) rfl
theorem kv_Pe_135 : mx_cvb "PegBoards" 135 mY_Re_size = true := by
  simp only [mx_cvb, Bool.and_eq_true, decide_eq_true_eq]
  exact ⟨⟨wl_Pe_135, wm_Re_size⟩, wv_Re_size⟩
theorem wc_Pe_solve : Cond.code ⟨"PegBoards", "solve", "(I)I"⟩ prog_1_method_10_code 2 (some .int) ∈ mx_WS := mx_in 611 (by decide +kernel) rfl
theorem kd_Pe_solve : mx_cdb mY_Pe_solve 1 = true := by
  simp only [mx_cdb, Bool.and_eq_true, decide_eq_true_eq]
  exact ⟨⟨⟨⟨⟨wi_Pe, wc_Pe_solve⟩, by decide +kernel⟩, by decide +kernel⟩, by decide +kernel⟩, by decide +kernel⟩
theorem wl_La_37 : Cond.methodLink "PegBoardsLaw" 37 ⟨"PegBoards", "solve", "(I)I"⟩ ∈ mx_WS := mx_in 608 (by decide +kernel) rfl
theorem wm_Pe_solve : Cond.instanceMethod ⟨"PegBoards", "solve", "(I)I"⟩ ∈ mx_WS := mx_in 609 (by decide +kernel) rfl
theorem wv_Pe_solve : Cond.selects "PegBoards" ⟨"PegBoards", "solve", "(I)I"⟩ ⟨"PegBoards", "solve", "(I)I"⟩ ∈ mx_WS := mx_in 610 (by decide +kernel) rfl
theorem kv_La_37 : mx_cvb "PegBoardsLaw" 37 mY_Pe_solve = true := by
  simp only [mx_cvb, Bool.and_eq_true, decide_eq_true_eq]
  exact ⟨⟨wl_La_37, wm_Pe_solve⟩, wv_Pe_solve⟩
theorem wc_Re_has : Cond.code ⟨"PegBoards$Reaching", "has", "(I)Z"⟩ prog_5_method_8_code 2 (some .boolean) ∈ mx_WS := mx_in 615 (by decide +kernel) rfl
theorem kd_Re_has : mx_cdb mY_Re_has 1 = true := by
  simp only [mx_cdb, Bool.and_eq_true, decide_eq_true_eq]
  exact ⟨⟨⟨⟨⟨wi_Re, wc_Re_has⟩, by decide +kernel⟩, by decide +kernel⟩, by decide +kernel⟩, by decide +kernel⟩
theorem wl_Pe_136 : Cond.methodLink "PegBoards" 136 ⟨"PegBoards$Reaching", "has", "(I)Z"⟩ ∈ mx_WS := mx_in 612 (by decide +kernel) rfl
theorem wm_Re_has : Cond.instanceMethod ⟨"PegBoards$Reaching", "has", "(I)Z"⟩ ∈ mx_WS := mx_in 613 (by decide +kernel) rfl
theorem wv_Re_has : Cond.selects "PegBoards$Reaching" ⟨"PegBoards$Reaching", "has", "(I)Z"⟩ ⟨"PegBoards$Reaching", "has", "(I)Z"⟩ ∈ mx_WS := mx_in 614 (by decide +kernel) rfl
theorem kv_Pe_136 : mx_cvb "PegBoards" 136 mY_Re_has = true := by
  simp only [mx_cvb, Bool.and_eq_true, decide_eq_true_eq]
  exact ⟨⟨wl_Pe_136, wm_Re_has⟩, wv_Re_has⟩
theorem wc_Fo_numberOf : Cond.code ⟨"PegBoards$Found", "numberOf", "(I)I"⟩ prog_3_method_5_code 2 (some .int) ∈ mx_WS := mx_in 619 (by decide +kernel) rfl
theorem kd_Fo_numberOf : mx_cdb mY_Fo_numberOf 1 = true := by
  simp only [mx_cdb, Bool.and_eq_true, decide_eq_true_eq]
  exact ⟨⟨⟨⟨⟨wi_Fo, wc_Fo_numberOf⟩, by decide +kernel⟩, by decide +kernel⟩, by decide +kernel⟩, by decide +kernel⟩
theorem wl_Re_81 : Cond.methodLink "PegBoards$Reaching" 81 ⟨"PegBoards$Found", "numberOf", "(I)I"⟩ ∈ mx_WS := mx_in 616 (by decide +kernel) rfl
theorem wm_Fo_numberOf : Cond.instanceMethod ⟨"PegBoards$Found", "numberOf", "(I)I"⟩ ∈ mx_WS := mx_in 617 (by decide +kernel) rfl
theorem wv_Fo_numberOf : Cond.selects "PegBoards$Found" ⟨"PegBoards$Found", "numberOf", "(I)I"⟩ ⟨"PegBoards$Found", "numberOf", "(I)I"⟩ ∈ mx_WS := mx_in 618 (by decide +kernel) rfl
theorem kv_Re_81 : mx_cvb "PegBoards$Reaching" 81 mY_Fo_numberOf = true := by
  simp only [mx_cvb, Bool.and_eq_true, decide_eq_true_eq]
  exact ⟨⟨wl_Re_81, wm_Fo_numberOf⟩, wv_Fo_numberOf⟩
theorem wc_Pe_way : Cond.code ⟨"PegBoards", "way", "(II)I"⟩ prog_1_method_11_code 3 (some .int) ∈ mx_WS := mx_in 626 (by decide +kernel) rfl
theorem kd_Pe_way : mx_cdb mY_Pe_way 2 = true := by
  simp only [mx_cdb, Bool.and_eq_true, decide_eq_true_eq]
  exact ⟨⟨⟨⟨⟨wi_Pe, wc_Pe_way⟩, by decide +kernel⟩, by decide +kernel⟩, by decide +kernel⟩, by decide +kernel⟩
theorem wl_La_40 : Cond.methodLink "PegBoardsLaw" 40 ⟨"PegBoards", "way", "(II)I"⟩ ∈ mx_WS := mx_in 623 (by decide +kernel) rfl
theorem wm_Pe_way : Cond.instanceMethod ⟨"PegBoards", "way", "(II)I"⟩ ∈ mx_WS := mx_in 624 (by decide +kernel) rfl
theorem wv_Pe_way : Cond.selects "PegBoards" ⟨"PegBoards", "way", "(II)I"⟩ ⟨"PegBoards", "way", "(II)I"⟩ ∈ mx_WS := mx_in 625 (by decide +kernel) rfl
theorem kv_La_40 : mx_cvb "PegBoardsLaw" 40 mY_Pe_way = true := by
  simp only [mx_cvb, Bool.and_eq_true, decide_eq_true_eq]
  exact ⟨⟨wl_La_40, wm_Pe_way⟩, wv_Pe_way⟩
theorem wc_Re_jumpOnWay : Cond.code ⟨"PegBoards$Reaching", "jumpOnWay", "(III)I"⟩ prog_5_method_10_code 7 (some .int) ∈ mx_WS := mx_in 630 (by decide +kernel) rfl
theorem kd_Re_jumpOnWay : mx_cdb mY_Re_jumpOnWay 3 = true := by
  simp only [mx_cdb, Bool.and_eq_true, decide_eq_true_eq]
  exact ⟨⟨⟨⟨⟨wi_Re, wc_Re_jumpOnWay⟩, by decide +kernel⟩, by decide +kernel⟩, by decide +kernel⟩, by decide +kernel⟩
theorem wl_Pe_140 : Cond.methodLink "PegBoards" 140 ⟨"PegBoards$Reaching", "jumpOnWay", "(III)I"⟩ ∈ mx_WS := mx_in 627 (by decide +kernel) rfl
theorem wm_Re_jumpOnWay : Cond.instanceMethod ⟨"PegBoards$Reaching", "jumpOnWay", "(III)I"⟩ ∈ mx_WS := mx_in 628 (by decide +kernel) rfl
theorem wv_Re_jumpOnWay : Cond.selects "PegBoards$Reaching" ⟨"PegBoards$Reaching", "jumpOnWay", "(III)I"⟩ ⟨"PegBoards$Reaching", "jumpOnWay", "(III)I"⟩ ∈ mx_WS := mx_in 629 (by decide +kernel) rfl
theorem kv_Pe_140 : mx_cvb "PegBoards" 140 mY_Re_jumpOnWay = true := by
  simp only [mx_cvb, Bool.and_eq_true, decide_eq_true_eq]
  exact ⟨⟨wl_Pe_140, wm_Re_jumpOnWay⟩, wv_Re_jumpOnWay⟩
theorem wi_In : Cond.initialized "java/lang/Integer" ∈ mx_WS := mx_in 57 (by decide +kernel) rfl
theorem wc_In_bitCount : Cond.code ⟨"java/lang/Integer", "bitCount", "(I)I"⟩ prog_14_method_49_code 1 (some .int) ∈ mx_WS := mx_in 633 (by decide +kernel) rfl
theorem kd_In_bitCount : mx_cdb mY_In_bitCount 1 = true := by
  simp only [mx_cdb, Bool.and_eq_true, decide_eq_true_eq]
  exact ⟨⟨⟨⟨⟨wi_In, wc_In_bitCount⟩, by decide +kernel⟩, by decide +kernel⟩, by decide +kernel⟩, by decide +kernel⟩
theorem wl_Re_84 : Cond.methodLink "PegBoards$Reaching" 84 ⟨"java/lang/Integer", "bitCount", "(I)I"⟩ ∈ mx_WS := mx_in 631 (by decide +kernel) rfl
theorem wt_In_bitCount : Cond.static ⟨"java/lang/Integer", "bitCount", "(I)I"⟩ ∈ mx_WS := mx_in 632 (by decide +kernel) rfl
theorem ks_Re_84 : mx_csb "PegBoards$Reaching" 84 mY_In_bitCount = true := by
  simp only [mx_csb, Bool.and_eq_true, decide_eq_true_eq]
  exact ⟨wl_Re_84, wt_In_bitCount⟩
theorem wc_Pe_moves : Cond.code ⟨"PegBoards", "moves", "(I)I"⟩ prog_1_method_12_code 2 (some .int) ∈ mx_WS := mx_in 643 (by decide +kernel) rfl
theorem kd_Pe_moves : mx_cdb mY_Pe_moves 1 = true := by
  simp only [mx_cdb, Bool.and_eq_true, decide_eq_true_eq]
  exact ⟨⟨⟨⟨⟨wi_Pe, wc_Pe_moves⟩, by decide +kernel⟩, by decide +kernel⟩, by decide +kernel⟩, by decide +kernel⟩
theorem wl_La_43 : Cond.methodLink "PegBoardsLaw" 43 ⟨"PegBoards", "moves", "(I)I"⟩ ∈ mx_WS := mx_in 640 (by decide +kernel) rfl
theorem wm_Pe_moves : Cond.instanceMethod ⟨"PegBoards", "moves", "(I)I"⟩ ∈ mx_WS := mx_in 641 (by decide +kernel) rfl
theorem wv_Pe_moves : Cond.selects "PegBoards" ⟨"PegBoards", "moves", "(I)I"⟩ ⟨"PegBoards", "moves", "(I)I"⟩ ∈ mx_WS := mx_in 642 (by decide +kernel) rfl
theorem kv_La_43 : mx_cvb "PegBoardsLaw" 43 mY_Pe_moves = true := by
  simp only [mx_cvb, Bool.and_eq_true, decide_eq_true_eq]
  exact ⟨⟨wl_La_43, wm_Pe_moves⟩, wv_Pe_moves⟩
theorem wc_Re_fewestMoves : Cond.code ⟨"PegBoards$Reaching", "fewestMoves", "(I)I"⟩ prog_5_method_9_code 3 (some .int) ∈ mx_WS := mx_in 647 (by decide +kernel) rfl
theorem kd_Re_fewestMoves : mx_cdb mY_Re_fewestMoves 1 = true := by
  simp only [mx_cdb, Bool.and_eq_true, decide_eq_true_eq]
  exact ⟨⟨⟨⟨⟨wi_Re, wc_Re_fewestMoves⟩, by decide +kernel⟩, by decide +kernel⟩, by decide +kernel⟩, by decide +kernel⟩
theorem wl_Pe_144 : Cond.methodLink "PegBoards" 144 ⟨"PegBoards$Reaching", "fewestMoves", "(I)I"⟩ ∈ mx_WS := mx_in 644 (by decide +kernel) rfl
theorem wm_Re_fewestMoves : Cond.instanceMethod ⟨"PegBoards$Reaching", "fewestMoves", "(I)I"⟩ ∈ mx_WS := mx_in 645 (by decide +kernel) rfl
theorem wv_Re_fewestMoves : Cond.selects "PegBoards$Reaching" ⟨"PegBoards$Reaching", "fewestMoves", "(I)I"⟩ ⟨"PegBoards$Reaching", "fewestMoves", "(I)I"⟩ ∈ mx_WS := mx_in 646 (by decide +kernel) rfl
theorem kv_Pe_144 : mx_cvb "PegBoards" 144 mY_Re_fewestMoves = true := by
  simp only [mx_cvb, Bool.and_eq_true, decide_eq_true_eq]
  exact ⟨⟨wl_Pe_144, wm_Re_fewestMoves⟩, wv_Re_fewestMoves⟩
theorem wc_Pe_classes : Cond.code ⟨"PegBoards", "classes", "(I)I"⟩ prog_1_method_13_code 2 (some .int) ∈ mx_WS := mx_in 654 (by decide +kernel) rfl
theorem kd_Pe_classes : mx_cdb mY_Pe_classes 1 = true := by
  simp only [mx_cdb, Bool.and_eq_true, decide_eq_true_eq]
  exact ⟨⟨⟨⟨⟨wi_Pe, wc_Pe_classes⟩, by decide +kernel⟩, by decide +kernel⟩, by decide +kernel⟩, by decide +kernel⟩
theorem wl_La_46 : Cond.methodLink "PegBoardsLaw" 46 ⟨"PegBoards", "classes", "(I)I"⟩ ∈ mx_WS := mx_in 651 (by decide +kernel) rfl
theorem wm_Pe_classes : Cond.instanceMethod ⟨"PegBoards", "classes", "(I)I"⟩ ∈ mx_WS := mx_in 652 (by decide +kernel) rfl
theorem wv_Pe_classes : Cond.selects "PegBoards" ⟨"PegBoards", "classes", "(I)I"⟩ ⟨"PegBoards", "classes", "(I)I"⟩ ∈ mx_WS := mx_in 653 (by decide +kernel) rfl
theorem kv_La_46 : mx_cvb "PegBoardsLaw" 46 mY_Pe_classes = true := by
  simp only [mx_cvb, Bool.and_eq_true, decide_eq_true_eq]
  exact ⟨⟨wl_La_46, wm_Pe_classes⟩, wv_Pe_classes⟩
theorem wc_Re_differentLeasts : Cond.code ⟨"PegBoards$Reaching", "differentLeasts", "(LPegBoards$Symmetries;)I"⟩ prog_5_method_11_code 3 (some .int) ∈ mx_WS := mx_in 658 (by decide +kernel) rfl
theorem kd_Re_differentLeasts : mx_cdb mY_Re_differentLeasts 1 = true := by
  simp only [mx_cdb, Bool.and_eq_true, decide_eq_true_eq]
  exact ⟨⟨⟨⟨⟨wi_Re, wc_Re_differentLeasts⟩, by decide +kernel⟩, by decide +kernel⟩, by decide +kernel⟩, by decide +kernel⟩
theorem wl_Pe_147 : Cond.methodLink "PegBoards" 147 ⟨"PegBoards$Reaching", "differentLeasts", "(LPegBoards$Symmetries;)I"⟩ ∈ mx_WS := mx_in 655 (by decide +kernel) rfl
theorem wm_Re_differentLeasts : Cond.instanceMethod ⟨"PegBoards$Reaching", "differentLeasts", "(LPegBoards$Symmetries;)I"⟩ ∈ mx_WS := mx_in 656 (by decide +kernel) rfl
theorem wv_Re_differentLeasts : Cond.selects "PegBoards$Reaching" ⟨"PegBoards$Reaching", "differentLeasts", "(LPegBoards$Symmetries;)I"⟩ ⟨"PegBoards$Reaching", "differentLeasts", "(LPegBoards$Symmetries;)I"⟩ ∈ mx_WS := mx_in 657 (by decide +kernel) rfl
theorem kv_Pe_147 : mx_cvb "PegBoards" 147 mY_Re_differentLeasts = true := by
  simp only [mx_cvb, Bool.and_eq_true, decide_eq_true_eq]
  exact ⟨⟨wl_Pe_147, wm_Re_differentLeasts⟩, wv_Re_differentLeasts⟩
theorem wc_Sy_leastOf : Cond.code ⟨"PegBoards$Symmetries", "leastOf", "(I)I"⟩ prog_6_method_10_code 4 (some .int) ∈ mx_WS := mx_in 662 (by decide +kernel) rfl
theorem kd_Sy_leastOf : mx_cdb mY_Sy_leastOf 1 = true := by
  simp only [mx_cdb, Bool.and_eq_true, decide_eq_true_eq]
  exact ⟨⟨⟨⟨⟨wi_Sy, wc_Sy_leastOf⟩, by decide +kernel⟩, by decide +kernel⟩, by decide +kernel⟩, by decide +kernel⟩
theorem wl_Re_89 : Cond.methodLink "PegBoards$Reaching" 89 ⟨"PegBoards$Symmetries", "leastOf", "(I)I"⟩ ∈ mx_WS := mx_in 659 (by decide +kernel) rfl
theorem wm_Sy_leastOf : Cond.instanceMethod ⟨"PegBoards$Symmetries", "leastOf", "(I)I"⟩ ∈ mx_WS := mx_in 660 (by decide +kernel) rfl
theorem wv_Sy_leastOf : Cond.selects "PegBoards$Symmetries" ⟨"PegBoards$Symmetries", "leastOf", "(I)I"⟩ ⟨"PegBoards$Symmetries", "leastOf", "(I)I"⟩ ∈ mx_WS := mx_in 661 (by decide +kernel) rfl
theorem kv_Re_89 : mx_cvb "PegBoards$Reaching" 89 mY_Sy_leastOf = true := by
  simp only [mx_cvb, Bool.and_eq_true, decide_eq_true_eq]
  exact ⟨⟨wl_Re_89, wm_Sy_leastOf⟩, wv_Sy_leastOf⟩
theorem wc_Sy_imageOf : Cond.code ⟨"PegBoards$Symmetries", "imageOf", "(II)I"⟩ prog_6_method_11_code 5 (some .int) ∈ mx_WS := mx_in 666 (by decide +kernel) rfl
theorem kd_Sy_imageOf : mx_cdb mY_Sy_imageOf 2 = true := by
  simp only [mx_cdb, Bool.and_eq_true, decide_eq_true_eq]
  exact ⟨⟨⟨⟨⟨wi_Sy, wc_Sy_imageOf⟩, by decide +kernel⟩, by decide +kernel⟩, by decide +kernel⟩, by decide +kernel⟩
theorem wl_Sy_76 : Cond.methodLink "PegBoards$Symmetries" 76 ⟨"PegBoards$Symmetries", "imageOf", "(II)I"⟩ ∈ mx_WS := mx_in 663 (by decide +kernel) rfl
theorem wm_Sy_imageOf : Cond.instanceMethod ⟨"PegBoards$Symmetries", "imageOf", "(II)I"⟩ ∈ mx_WS := mx_in 665 (by decide +kernel) rfl
theorem wv_Sy_imageOf : Cond.selects "PegBoards$Symmetries" ⟨"PegBoards$Symmetries", "imageOf", "(II)I"⟩ ⟨"PegBoards$Symmetries", "imageOf", "(II)I"⟩ ∈ mx_WS := mx_in 15 (by decide +kernel) rfl
theorem kv_Sy_76 : mx_cvb "PegBoards$Symmetries" 76 mY_Sy_imageOf = true := by
  simp only [mx_cvb, Bool.and_eq_true, decide_eq_true_eq]
  exact ⟨⟨wl_Sy_76, wm_Sy_imageOf⟩, wv_Sy_imageOf⟩
theorem wn_Sy_84 : Cond.methodLinkNest "PegBoards$Symmetries" 84 ⟨"PegBoards", "contains", "(II)Z"⟩ "PegBoards" ∈ mx_NW := mx_inN 667 (by decide +kernel) rfl
theorem kn_Sy_84 : mx_cnb "PegBoards$Symmetries" 84 mY_Pe_contains = true := by
  simp only [mx_cnb, Bool.and_eq_true, decide_eq_true_eq]
  exact ⟨wn_Sy_84, wt_Pe_contains⟩
theorem wl_Sy_79 : Cond.methodLink "PegBoards$Symmetries" 79 ⟨"java/lang/Math", "min", "(II)I"⟩ ∈ mx_WS := mx_in 668 (by decide +kernel) rfl
theorem ks_Sy_79 : mx_csb "PegBoards$Symmetries" 79 mY_Ma_min = true := by
  simp only [mx_csb, Bool.and_eq_true, decide_eq_true_eq]
  exact ⟨wl_Sy_79, wt_Ma_min⟩
theorem wc_Pe_image : Cond.code ⟨"PegBoards", "image", "(II)I"⟩ prog_1_method_15_code 3 (some .int) ∈ mx_WS := mx_in 675 (by decide +kernel) rfl
theorem kd_Pe_image : mx_cdb mY_Pe_image 2 = true := by
  simp only [mx_cdb, Bool.and_eq_true, decide_eq_true_eq]
  exact ⟨⟨⟨⟨⟨wi_Pe, wc_Pe_image⟩, by decide +kernel⟩, by decide +kernel⟩, by decide +kernel⟩, by decide +kernel⟩
theorem wl_La_49 : Cond.methodLink "PegBoardsLaw" 49 ⟨"PegBoards", "image", "(II)I"⟩ ∈ mx_WS := mx_in 672 (by decide +kernel) rfl
theorem wm_Pe_image : Cond.instanceMethod ⟨"PegBoards", "image", "(II)I"⟩ ∈ mx_WS := mx_in 673 (by decide +kernel) rfl
theorem wv_Pe_image : Cond.selects "PegBoards" ⟨"PegBoards", "image", "(II)I"⟩ ⟨"PegBoards", "image", "(II)I"⟩ ∈ mx_WS := mx_in 674 (by decide +kernel) rfl
theorem kv_La_49 : mx_cvb "PegBoardsLaw" 49 mY_Pe_image = true := by
  simp only [mx_cvb, Bool.and_eq_true, decide_eq_true_eq]
  exact ⟨⟨wl_La_49, wm_Pe_image⟩, wv_Pe_image⟩
theorem wc_Pe_requireHole : Cond.code ⟨"PegBoards", "requireHole", "(I)V"⟩ prog_1_method_25_code 2 none ∈ mx_WS := mx_in 680 (by decide +kernel) rfl
theorem kd_Pe_requireHole : mx_cdb mY_Pe_requireHole 1 = true := by
  simp only [mx_cdb, Bool.and_eq_true, decide_eq_true_eq]
  exact ⟨⟨⟨⟨⟨wi_Pe, wc_Pe_requireHole⟩, by decide +kernel⟩, by decide +kernel⟩, by decide +kernel⟩, by decide +kernel⟩
theorem wl_Pe_154 : Cond.methodLink "PegBoards" 154 ⟨"PegBoards", "requireHole", "(I)V"⟩ ∈ mx_WS := mx_in 677 (by decide +kernel) rfl
theorem wm_Pe_requireHole : Cond.instanceMethod ⟨"PegBoards", "requireHole", "(I)V"⟩ ∈ mx_WS := mx_in 679 (by decide +kernel) rfl
theorem wv_Pe_requireHole : Cond.selects "PegBoards" ⟨"PegBoards", "requireHole", "(I)V"⟩ ⟨"PegBoards", "requireHole", "(I)V"⟩ ∈ mx_WS := mx_in 16 (by decide +kernel) rfl
theorem kv_Pe_154 : mx_cvb "PegBoards" 154 mY_Pe_requireHole = true := by
  simp only [mx_cvb, Bool.and_eq_true, decide_eq_true_eq]
  exact ⟨⟨wl_Pe_154, wm_Pe_requireHole⟩, wv_Pe_requireHole⟩
theorem wl_Pe_190 : Cond.methodLink "PegBoards" 190 ⟨"PegBoards$Board", "holes", "()I"⟩ ∈ mx_WS := mx_in 681 (by decide +kernel) rfl
theorem kv_Pe_190 : mx_cvb "PegBoards" 190 mY_Bo_holes = true := by
  simp only [mx_cvb, Bool.and_eq_true, decide_eq_true_eq]
  exact ⟨⟨wl_Pe_190, wm_Bo_holes⟩, wv_Bo_holes⟩
theorem wc_Sy_holeOf : Cond.code ⟨"PegBoards$Symmetries", "holeOf", "(II)I"⟩ prog_6_method_9_code 3 (some .int) ∈ mx_WS := mx_in 686 (by decide +kernel) rfl
theorem kd_Sy_holeOf : mx_cdb mY_Sy_holeOf 2 = true := by
  simp only [mx_cdb, Bool.and_eq_true, decide_eq_true_eq]
  exact ⟨⟨⟨⟨⟨wi_Sy, wc_Sy_holeOf⟩, by decide +kernel⟩, by decide +kernel⟩, by decide +kernel⟩, by decide +kernel⟩
theorem wl_Pe_157 : Cond.methodLink "PegBoards" 157 ⟨"PegBoards$Symmetries", "holeOf", "(II)I"⟩ ∈ mx_WS := mx_in 683 (by decide +kernel) rfl
theorem wm_Sy_holeOf : Cond.instanceMethod ⟨"PegBoards$Symmetries", "holeOf", "(II)I"⟩ ∈ mx_WS := mx_in 684 (by decide +kernel) rfl
theorem wv_Sy_holeOf : Cond.selects "PegBoards$Symmetries" ⟨"PegBoards$Symmetries", "holeOf", "(II)I"⟩ ⟨"PegBoards$Symmetries", "holeOf", "(II)I"⟩ ∈ mx_WS := mx_in 685 (by decide +kernel) rfl
theorem kv_Pe_157 : mx_cvb "PegBoards" 157 mY_Sy_holeOf = true := by
  simp only [mx_cvb, Bool.and_eq_true, decide_eq_true_eq]
  exact ⟨⟨wl_Pe_157, wm_Sy_holeOf⟩, wv_Sy_holeOf⟩
theorem wc_Pe_least : Cond.code ⟨"PegBoards", "least", "(I)I"⟩ prog_1_method_16_code 2 (some .int) ∈ mx_WS := mx_in 693 (by decide +kernel) rfl
theorem kd_Pe_least : mx_cdb mY_Pe_least 1 = true := by
  simp only [mx_cdb, Bool.and_eq_true, decide_eq_true_eq]
  exact ⟨⟨⟨⟨⟨wi_Pe, wc_Pe_least⟩, by decide +kernel⟩, by decide +kernel⟩, by decide +kernel⟩, by decide +kernel⟩
theorem wl_La_52 : Cond.methodLink "PegBoardsLaw" 52 ⟨"PegBoards", "least", "(I)I"⟩ ∈ mx_WS := mx_in 690 (by decide +kernel) rfl
theorem wm_Pe_least : Cond.instanceMethod ⟨"PegBoards", "least", "(I)I"⟩ ∈ mx_WS := mx_in 691 (by decide +kernel) rfl
theorem wv_Pe_least : Cond.selects "PegBoards" ⟨"PegBoards", "least", "(I)I"⟩ ⟨"PegBoards", "least", "(I)I"⟩ ∈ mx_WS := mx_in 692 (by decide +kernel) rfl
theorem kv_La_52 : mx_cvb "PegBoardsLaw" 52 mY_Pe_least = true := by
  simp only [mx_cvb, Bool.and_eq_true, decide_eq_true_eq]
  exact ⟨⟨wl_La_52, wm_Pe_least⟩, wv_Pe_least⟩
theorem wl_Pe_163 : Cond.methodLink "PegBoards" 163 ⟨"PegBoards$Symmetries", "leastOf", "(I)I"⟩ ∈ mx_WS := mx_in 694 (by decide +kernel) rfl
theorem kv_Pe_163 : mx_cvb "PegBoards" 163 mY_Sy_leastOf = true := by
  simp only [mx_cvb, Bool.and_eq_true, decide_eq_true_eq]
  exact ⟨⟨wl_Pe_163, wm_Sy_leastOf⟩, wv_Sy_leastOf⟩
theorem wc_Pe_parity : Cond.code ⟨"PegBoards", "parity", "(I)I"⟩ prog_1_method_17_code 2 (some .int) ∈ mx_WS := mx_in 701 (by decide +kernel) rfl
theorem kd_Pe_parity : mx_cdb mY_Pe_parity 1 = true := by
  simp only [mx_cdb, Bool.and_eq_true, decide_eq_true_eq]
  exact ⟨⟨⟨⟨⟨wi_Pe, wc_Pe_parity⟩, by decide +kernel⟩, by decide +kernel⟩, by decide +kernel⟩, by decide +kernel⟩
theorem wl_La_55 : Cond.methodLink "PegBoardsLaw" 55 ⟨"PegBoards", "parity", "(I)I"⟩ ∈ mx_WS := mx_in 698 (by decide +kernel) rfl
theorem wm_Pe_parity : Cond.instanceMethod ⟨"PegBoards", "parity", "(I)I"⟩ ∈ mx_WS := mx_in 699 (by decide +kernel) rfl
theorem wv_Pe_parity : Cond.selects "PegBoards" ⟨"PegBoards", "parity", "(I)I"⟩ ⟨"PegBoards", "parity", "(I)I"⟩ ∈ mx_WS := mx_in 700 (by decide +kernel) rfl
theorem kv_La_55 : mx_cvb "PegBoardsLaw" 55 mY_Pe_parity = true := by
  simp only [mx_cvb, Bool.and_eq_true, decide_eq_true_eq]
  exact ⟨⟨wl_La_55, wm_Pe_parity⟩, wv_Pe_parity⟩
theorem wl_Pe_166 : Cond.methodLink "PegBoards" 166 ⟨"PegBoards$Board", "isTriangular", "()Z"⟩ ∈ mx_WS := mx_in 702 (by decide +kernel) rfl
theorem kv_Pe_166 : mx_cvb "PegBoards" 166 mY_Bo_isTriangular = true := by
  simp only [mx_cvb, Bool.and_eq_true, decide_eq_true_eq]
  exact ⟨⟨wl_Pe_166, wm_Bo_isTriangular⟩, wv_Bo_isTriangular⟩
theorem wc_Bo_classOf : Cond.code ⟨"PegBoards$Board", "classOf", "(I)I"⟩ prog_2_method_16_code 6 (some .int) ∈ mx_WS := mx_in 706 (by decide +kernel) rfl
theorem kd_Bo_classOf : mx_cdb mY_Bo_classOf 1 = true := by
  simp only [mx_cdb, Bool.and_eq_true, decide_eq_true_eq]
  exact ⟨⟨⟨⟨⟨wi_Bo, wc_Bo_classOf⟩, by decide +kernel⟩, by decide +kernel⟩, by decide +kernel⟩, by decide +kernel⟩
theorem wl_Pe_169 : Cond.methodLink "PegBoards" 169 ⟨"PegBoards$Board", "classOf", "(I)I"⟩ ∈ mx_WS := mx_in 703 (by decide +kernel) rfl
theorem wm_Bo_classOf : Cond.instanceMethod ⟨"PegBoards$Board", "classOf", "(I)I"⟩ ∈ mx_WS := mx_in 704 (by decide +kernel) rfl
theorem wv_Bo_classOf : Cond.selects "PegBoards$Board" ⟨"PegBoards$Board", "classOf", "(I)I"⟩ ⟨"PegBoards$Board", "classOf", "(I)I"⟩ ∈ mx_WS := mx_in 705 (by decide +kernel) rfl
theorem kv_Pe_169 : mx_cvb "PegBoards" 169 mY_Bo_classOf = true := by
  simp only [mx_cvb, Bool.and_eq_true, decide_eq_true_eq]
  exact ⟨⟨wl_Pe_169, wm_Bo_classOf⟩, wv_Bo_classOf⟩
theorem wn_Bo_50 : Cond.methodLinkNest "PegBoards$Board" 50 ⟨"PegBoards", "contains", "(II)Z"⟩ "PegBoards" ∈ mx_NW := mx_inN 707 (by decide +kernel) rfl
theorem kn_Bo_50 : mx_cnb "PegBoards$Board" 50 mY_Pe_contains = true := by
  simp only [mx_cnb, Bool.and_eq_true, decide_eq_true_eq]
  exact ⟨wn_Bo_50, wt_Pe_contains⟩
theorem wc_Bo_colours : Cond.code ⟨"PegBoards$Board", "colours", "(I)I"⟩ prog_2_method_17_code 1 (some .int) ∈ mx_WS := mx_in 710 (by decide +kernel) rfl
theorem kd_Bo_colours : mx_cdb mY_Bo_colours 1 = true := by
  simp only [mx_cdb, Bool.and_eq_true, decide_eq_true_eq]
  exact ⟨⟨⟨⟨⟨wi_Bo, wc_Bo_colours⟩, by decide +kernel⟩, by decide +kernel⟩, by decide +kernel⟩, by decide +kernel⟩
theorem wl_Bo_53 : Cond.methodLink "PegBoards$Board" 53 ⟨"PegBoards$Board", "colours", "(I)I"⟩ ∈ mx_WS := mx_in 708 (by decide +kernel) rfl
theorem wt_Bo_colours : Cond.static ⟨"PegBoards$Board", "colours", "(I)I"⟩ ∈ mx_WS := mx_in 709 (by decide +kernel) rfl
theorem ks_Bo_53 : mx_csb "PegBoards$Board" 53 mY_Bo_colours = true := by
  simp only [mx_csb, Bool.and_eq_true, decide_eq_true_eq]
  exact ⟨wl_Bo_53, wt_Bo_colours⟩
theorem wc_Pe_weight : Cond.code ⟨"PegBoards", "weight", "(II)V"⟩ prog_1_method_18_code 3 none ∈ mx_WS := mx_in 717 (by decide +kernel) rfl
theorem kd_Pe_weight : mx_cdb mY_Pe_weight 2 = true := by
  simp only [mx_cdb, Bool.and_eq_true, decide_eq_true_eq]
  exact ⟨⟨⟨⟨⟨wi_Pe, wc_Pe_weight⟩, by decide +kernel⟩, by decide +kernel⟩, by decide +kernel⟩, by decide +kernel⟩
theorem wl_La_58 : Cond.methodLink "PegBoardsLaw" 58 ⟨"PegBoards", "weight", "(II)V"⟩ ∈ mx_WS := mx_in 714 (by decide +kernel) rfl
theorem wm_Pe_weight : Cond.instanceMethod ⟨"PegBoards", "weight", "(II)V"⟩ ∈ mx_WS := mx_in 715 (by decide +kernel) rfl
theorem wv_Pe_weight : Cond.selects "PegBoards" ⟨"PegBoards", "weight", "(II)V"⟩ ⟨"PegBoards", "weight", "(II)V"⟩ ∈ mx_WS := mx_in 716 (by decide +kernel) rfl
theorem kv_La_58 : mx_cvb "PegBoardsLaw" 58 mY_Pe_weight = true := by
  simp only [mx_cvb, Bool.and_eq_true, decide_eq_true_eq]
  exact ⟨⟨wl_La_58, wm_Pe_weight⟩, wv_Pe_weight⟩
theorem wc_We_put : Cond.code ⟨"PegBoards$Weights", "put", "(II)V"⟩ prog_7_method_3_code 3 none ∈ mx_WS := mx_in 722 (by decide +kernel) rfl
theorem kd_We_put : mx_cdb mY_We_put 2 = true := by
  simp only [mx_cdb, Bool.and_eq_true, decide_eq_true_eq]
  exact ⟨⟨⟨⟨⟨wi_We, wc_We_put⟩, by decide +kernel⟩, by decide +kernel⟩, by decide +kernel⟩, by decide +kernel⟩
theorem wl_Pe_174 : Cond.methodLink "PegBoards" 174 ⟨"PegBoards$Weights", "put", "(II)V"⟩ ∈ mx_WS := mx_in 719 (by decide +kernel) rfl
theorem wm_We_put : Cond.instanceMethod ⟨"PegBoards$Weights", "put", "(II)V"⟩ ∈ mx_WS := mx_in 720 (by decide +kernel) rfl
theorem wv_We_put : Cond.selects "PegBoards$Weights" ⟨"PegBoards$Weights", "put", "(II)V"⟩ ⟨"PegBoards$Weights", "put", "(II)V"⟩ ∈ mx_WS := mx_in 721 (by decide +kernel) rfl
theorem kv_Pe_174 : mx_cvb "PegBoards" 174 mY_We_put = true := by
  simp only [mx_cvb, Bool.and_eq_true, decide_eq_true_eq]
  exact ⟨⟨wl_Pe_174, wm_We_put⟩, wv_We_put⟩
theorem wc_Pe_weights : Cond.code ⟨"PegBoards", "weights", "(I)I"⟩ prog_1_method_19_code 2 (some .int) ∈ mx_WS := mx_in 729 (by decide +kernel) rfl
theorem kd_Pe_weights : mx_cdb mY_Pe_weights 1 = true := by
  simp only [mx_cdb, Bool.and_eq_true, decide_eq_true_eq]
  exact ⟨⟨⟨⟨⟨wi_Pe, wc_Pe_weights⟩, by decide +kernel⟩, by decide +kernel⟩, by decide +kernel⟩, by decide +kernel⟩
theorem wl_La_62 : Cond.methodLink "PegBoardsLaw" 62 ⟨"PegBoards", "weights", "(I)I"⟩ ∈ mx_WS := mx_in 726 (by decide +kernel) rfl
theorem wm_Pe_weights : Cond.instanceMethod ⟨"PegBoards", "weights", "(I)I"⟩ ∈ mx_WS := mx_in 727 (by decide +kernel) rfl
theorem wv_Pe_weights : Cond.selects "PegBoards" ⟨"PegBoards", "weights", "(I)I"⟩ ⟨"PegBoards", "weights", "(I)I"⟩ ∈ mx_WS := mx_in 728 (by decide +kernel) rfl
theorem kv_La_62 : mx_cvb "PegBoardsLaw" 62 mY_Pe_weights = true := by
  simp only [mx_cvb, Bool.and_eq_true, decide_eq_true_eq]
  exact ⟨⟨wl_La_62, wm_Pe_weights⟩, wv_Pe_weights⟩
theorem wc_We_hold : Cond.code ⟨"PegBoards$Weights", "hold", "(LPegBoards$Jumps;)Z"⟩ prog_7_method_6_code 3 (some .boolean) ∈ mx_WS := mx_in 733 (by decide +kernel) rfl
theorem kd_We_hold : mx_cdb mY_We_hold 1 = true := by
  simp only [mx_cdb, Bool.and_eq_true, decide_eq_true_eq]
  exact ⟨⟨⟨⟨⟨wi_We, wc_We_hold⟩, by decide +kernel⟩, by decide +kernel⟩, by decide +kernel⟩, by decide +kernel⟩
theorem wl_Pe_178 : Cond.methodLink "PegBoards" 178 ⟨"PegBoards$Weights", "hold", "(LPegBoards$Jumps;)Z"⟩ ∈ mx_WS := mx_in 730 (by decide +kernel) rfl
theorem wm_We_hold : Cond.instanceMethod ⟨"PegBoards$Weights", "hold", "(LPegBoards$Jumps;)Z"⟩ ∈ mx_WS := mx_in 731 (by decide +kernel) rfl
theorem wv_We_hold : Cond.selects "PegBoards$Weights" ⟨"PegBoards$Weights", "hold", "(LPegBoards$Jumps;)Z"⟩ ⟨"PegBoards$Weights", "hold", "(LPegBoards$Jumps;)Z"⟩ ∈ mx_WS := mx_in 732 (by decide +kernel) rfl
theorem kv_Pe_178 : mx_cvb "PegBoards" 178 mY_We_hold = true := by
  simp only [mx_cvb, Bool.and_eq_true, decide_eq_true_eq]
  exact ⟨⟨wl_Pe_178, wm_We_hold⟩, wv_We_hold⟩
theorem wl_We_28 : Cond.methodLink "PegBoards$Weights" 28 ⟨"PegBoards$Jumps", "size", "()I"⟩ ∈ mx_WS := mx_in 734 (by decide +kernel) rfl
theorem kv_We_28 : mx_cvb "PegBoards$Weights" 28 mY_Ju_size = true := by
  simp only [mx_cvb, Bool.and_eq_true, decide_eq_true_eq]
  exact ⟨⟨wl_We_28, wm_Ju_size⟩, wv_Ju_size⟩
theorem wl_We_34 : Cond.methodLink "PegBoards$Weights" 34 ⟨"PegBoards$Jumps", "to", "(I)I"⟩ ∈ mx_WS := mx_in 735 (by decide +kernel) rfl
theorem kv_We_34 : mx_cvb "PegBoards$Weights" 34 mY_Ju_to = true := by
  simp only [mx_cvb, Bool.and_eq_true, decide_eq_true_eq]
  exact ⟨⟨wl_We_34, wm_Ju_to⟩, wv_Ju_to⟩
theorem wl_We_38 : Cond.methodLink "PegBoards$Weights" 38 ⟨"PegBoards$Jumps", "from", "(I)I"⟩ ∈ mx_WS := mx_in 736 (by decide +kernel) rfl
theorem kv_We_38 : mx_cvb "PegBoards$Weights" 38 mY_Ju_from = true := by
  simp only [mx_cvb, Bool.and_eq_true, decide_eq_true_eq]
  exact ⟨⟨wl_We_38, wm_Ju_from⟩, wv_Ju_from⟩
theorem wl_We_41 : Cond.methodLink "PegBoards$Weights" 41 ⟨"PegBoards$Jumps", "over", "(I)I"⟩ ∈ mx_WS := mx_in 737 (by decide +kernel) rfl
theorem kv_We_41 : mx_cvb "PegBoards$Weights" 41 mY_Ju_over = true := by
  simp only [mx_cvb, Bool.and_eq_true, decide_eq_true_eq]
  exact ⟨⟨wl_We_41, wm_Ju_over⟩, wv_Ju_over⟩
theorem wc_We_sumOf : Cond.code ⟨"PegBoards$Weights", "sumOf", "(I)I"⟩ prog_7_method_5_code 4 (some .int) ∈ mx_WS := mx_in 741 (by decide +kernel) rfl
theorem kd_We_sumOf : mx_cdb mY_We_sumOf 1 = true := by
  simp only [mx_cdb, Bool.and_eq_true, decide_eq_true_eq]
  exact ⟨⟨⟨⟨⟨wi_We, wc_We_sumOf⟩, by decide +kernel⟩, by decide +kernel⟩, by decide +kernel⟩, by decide +kernel⟩
theorem wl_Pe_182 : Cond.methodLink "PegBoards" 182 ⟨"PegBoards$Weights", "sumOf", "(I)I"⟩ ∈ mx_WS := mx_in 738 (by decide +kernel) rfl
theorem wm_We_sumOf : Cond.instanceMethod ⟨"PegBoards$Weights", "sumOf", "(I)I"⟩ ∈ mx_WS := mx_in 739 (by decide +kernel) rfl
theorem wv_We_sumOf : Cond.selects "PegBoards$Weights" ⟨"PegBoards$Weights", "sumOf", "(I)I"⟩ ⟨"PegBoards$Weights", "sumOf", "(I)I"⟩ ∈ mx_WS := mx_in 740 (by decide +kernel) rfl
theorem kv_Pe_182 : mx_cvb "PegBoards" 182 mY_We_sumOf = true := by
  simp only [mx_cvb, Bool.and_eq_true, decide_eq_true_eq]
  exact ⟨⟨wl_Pe_182, wm_We_sumOf⟩, wv_We_sumOf⟩
theorem wn_We_24 : Cond.methodLinkNest "PegBoards$Weights" 24 ⟨"PegBoards", "contains", "(II)Z"⟩ "PegBoards" ∈ mx_NW := mx_inN 742 (by decide +kernel) rfl
theorem kn_We_24 : mx_cnb "PegBoards$Weights" 24 mY_Pe_contains = true := by
  simp only [mx_cnb, Bool.and_eq_true, decide_eq_true_eq]
  exact ⟨wn_We_24, wt_Pe_contains⟩
theorem wc_We_of : Cond.code ⟨"PegBoards$Weights", "of", "(I)I"⟩ prog_7_method_4_code 2 (some .int) ∈ mx_WS := mx_in 747 (by decide +kernel) rfl
theorem kd_We_of : mx_cdb mY_We_of 1 = true := by
  simp only [mx_cdb, Bool.and_eq_true, decide_eq_true_eq]
  exact ⟨⟨⟨⟨⟨wi_We, wc_We_of⟩, by decide +kernel⟩, by decide +kernel⟩, by decide +kernel⟩, by decide +kernel⟩
theorem wl_Pe_187 : Cond.methodLink "PegBoards" 187 ⟨"PegBoards$Weights", "of", "(I)I"⟩ ∈ mx_WS := mx_in 744 (by decide +kernel) rfl
theorem wm_We_of : Cond.instanceMethod ⟨"PegBoards$Weights", "of", "(I)I"⟩ ∈ mx_WS := mx_in 745 (by decide +kernel) rfl
theorem wv_We_of : Cond.selects "PegBoards$Weights" ⟨"PegBoards$Weights", "of", "(I)I"⟩ ⟨"PegBoards$Weights", "of", "(I)I"⟩ ∈ mx_WS := mx_in 746 (by decide +kernel) rfl
theorem kv_Pe_187 : mx_cvb "PegBoards" 187 mY_We_of = true := by
  simp only [mx_cvb, Bool.and_eq_true, decide_eq_true_eq]
  exact ⟨⟨wl_Pe_187, wm_We_of⟩, wv_We_of⟩
theorem wc_Pe_find : Cond.code ⟨"PegBoards", "find", "()Z"⟩ prog_1_method_20_code 1 (some .boolean) ∈ mx_WS := mx_in 754 (by decide +kernel) rfl
theorem kd_Pe_find : mx_cdb mY_Pe_find 0 = true := by
  simp only [mx_cdb, Bool.and_eq_true, decide_eq_true_eq]
  exact ⟨⟨⟨⟨⟨wi_Pe, wc_Pe_find⟩, by decide +kernel⟩, by decide +kernel⟩, by decide +kernel⟩, by decide +kernel⟩
theorem wl_La_65 : Cond.methodLink "PegBoardsLaw" 65 ⟨"PegBoards", "find", "()Z"⟩ ∈ mx_WS := mx_in 751 (by decide +kernel) rfl
theorem wm_Pe_find : Cond.instanceMethod ⟨"PegBoards", "find", "()Z"⟩ ∈ mx_WS := mx_in 752 (by decide +kernel) rfl
theorem wv_Pe_find : Cond.selects "PegBoards" ⟨"PegBoards", "find", "()Z"⟩ ⟨"PegBoards", "find", "()Z"⟩ ∈ mx_WS := mx_in 753 (by decide +kernel) rfl
theorem kv_La_65 : mx_cvb "PegBoardsLaw" 65 mY_Pe_find = true := by
  simp only [mx_cvb, Bool.and_eq_true, decide_eq_true_eq]
  exact ⟨⟨wl_La_65, wm_Pe_find⟩, wv_Pe_find⟩
theorem wc_We_search : Cond.code ⟨"PegBoards$Weights", "search", "(LPegBoards$Jumps;III)Z"⟩ prog_7_method_7_code 5 (some .boolean) ∈ mx_WS := mx_in 759 (by decide +kernel) rfl
theorem kd_We_search : mx_cdb mY_We_search 4 = true := by
  simp only [mx_cdb, Bool.and_eq_true, decide_eq_true_eq]
  exact ⟨⟨⟨⟨⟨wi_We, wc_We_search⟩, by decide +kernel⟩, by decide +kernel⟩, by decide +kernel⟩, by decide +kernel⟩
theorem wl_Pe_195 : Cond.methodLink "PegBoards" 195 ⟨"PegBoards$Weights", "search", "(LPegBoards$Jumps;III)Z"⟩ ∈ mx_WS := mx_in 756 (by decide +kernel) rfl
theorem wm_We_search : Cond.instanceMethod ⟨"PegBoards$Weights", "search", "(LPegBoards$Jumps;III)Z"⟩ ∈ mx_WS := mx_in 757 (by decide +kernel) rfl
theorem wv_We_search : Cond.selects "PegBoards$Weights" ⟨"PegBoards$Weights", "search", "(LPegBoards$Jumps;III)Z"⟩ ⟨"PegBoards$Weights", "search", "(LPegBoards$Jumps;III)Z"⟩ ∈ mx_WS := mx_in 758 (by decide +kernel) rfl
theorem kv_Pe_195 : mx_cvb "PegBoards" 195 mY_We_search = true := by
  simp only [mx_cvb, Bool.and_eq_true, decide_eq_true_eq]
  exact ⟨⟨wl_Pe_195, wm_We_search⟩, wv_We_search⟩
theorem wc_We_tryFrom : Cond.code ⟨"PegBoards$Weights", "tryFrom", "(IILPegBoards$Jumps;III)Z"⟩ prog_7_method_8_code 10 (some .boolean) ∈ mx_WS := mx_in 763 (by decide +kernel) rfl
theorem kd_We_tryFrom : mx_cdb mY_We_tryFrom 6 = true := by
  simp only [mx_cdb, Bool.and_eq_true, decide_eq_true_eq]
  exact ⟨⟨⟨⟨⟨wi_We, wc_We_tryFrom⟩, by decide +kernel⟩, by decide +kernel⟩, by decide +kernel⟩, by decide +kernel⟩
theorem wl_We_44 : Cond.methodLink "PegBoards$Weights" 44 ⟨"PegBoards$Weights", "tryFrom", "(IILPegBoards$Jumps;III)Z"⟩ ∈ mx_WS := mx_in 760 (by decide +kernel) rfl
theorem wm_We_tryFrom : Cond.instanceMethod ⟨"PegBoards$Weights", "tryFrom", "(IILPegBoards$Jumps;III)Z"⟩ ∈ mx_WS := mx_in 762 (by decide +kernel) rfl
theorem wv_We_tryFrom : Cond.selects "PegBoards$Weights" ⟨"PegBoards$Weights", "tryFrom", "(IILPegBoards$Jumps;III)Z"⟩ ⟨"PegBoards$Weights", "tryFrom", "(IILPegBoards$Jumps;III)Z"⟩ ∈ mx_WS := mx_in 17 (by decide +kernel) rfl
theorem kv_We_44 : mx_cvb "PegBoards$Weights" 44 mY_We_tryFrom = true := by
  simp only [mx_cvb, Bool.and_eq_true, decide_eq_true_eq]
  exact ⟨⟨wl_We_44, wm_We_tryFrom⟩, wv_We_tryFrom⟩
theorem wl_We_54 : Cond.methodLink "PegBoards$Weights" 54 ⟨"java/lang/Integer", "bitCount", "(I)I"⟩ ∈ mx_WS := mx_in 764 (by decide +kernel) rfl
theorem ks_We_54 : mx_csb "PegBoards$Weights" 54 mY_In_bitCount = true := by
  simp only [mx_csb, Bool.and_eq_true, decide_eq_true_eq]
  exact ⟨wl_We_54, wt_In_bitCount⟩
theorem wc_We_triedHold : Cond.code ⟨"PegBoards$Weights", "triedHold", "(ILPegBoards$Jumps;)Z"⟩ prog_7_method_9_code 7 (some .boolean) ∈ mx_WS := mx_in 768 (by decide +kernel) rfl
theorem kd_We_triedHold : mx_cdb mY_We_triedHold 2 = true := by
  simp only [mx_cdb, Bool.and_eq_true, decide_eq_true_eq]
  exact ⟨⟨⟨⟨⟨wi_We, wc_We_triedHold⟩, by decide +kernel⟩, by decide +kernel⟩, by decide +kernel⟩, by decide +kernel⟩
theorem wl_We_59 : Cond.methodLink "PegBoards$Weights" 59 ⟨"PegBoards$Weights", "triedHold", "(ILPegBoards$Jumps;)Z"⟩ ∈ mx_WS := mx_in 765 (by decide +kernel) rfl
theorem wm_We_triedHold : Cond.instanceMethod ⟨"PegBoards$Weights", "triedHold", "(ILPegBoards$Jumps;)Z"⟩ ∈ mx_WS := mx_in 767 (by decide +kernel) rfl
theorem wv_We_triedHold : Cond.selects "PegBoards$Weights" ⟨"PegBoards$Weights", "triedHold", "(ILPegBoards$Jumps;)Z"⟩ ⟨"PegBoards$Weights", "triedHold", "(ILPegBoards$Jumps;)Z"⟩ ∈ mx_WS := mx_in 18 (by decide +kernel) rfl
theorem kv_We_59 : mx_cvb "PegBoards$Weights" 59 mY_We_triedHold = true := by
  simp only [mx_cvb, Bool.and_eq_true, decide_eq_true_eq]
  exact ⟨⟨wl_We_59, wm_We_triedHold⟩, wv_We_triedHold⟩
theorem wc_Ma_max : Cond.code ⟨"java/lang/Math", "max", "(II)I"⟩ prog_15_method_65_code 2 (some .int) ∈ mx_WS := mx_in 771 (by decide +kernel) rfl
theorem kd_Ma_max : mx_cdb mY_Ma_max 2 = true := by
  simp only [mx_cdb, Bool.and_eq_true, decide_eq_true_eq]
  exact ⟨⟨⟨⟨⟨wi_Ma, wc_Ma_max⟩, by decide +kernel⟩, by decide +kernel⟩, by decide +kernel⟩, by decide +kernel⟩
theorem wl_We_63 : Cond.methodLink "PegBoards$Weights" 63 ⟨"java/lang/Math", "max", "(II)I"⟩ ∈ mx_WS := mx_in 769 (by decide +kernel) rfl
theorem wt_Ma_max : Cond.static ⟨"java/lang/Math", "max", "(II)I"⟩ ∈ mx_WS := mx_in 770 (by decide +kernel) rfl
theorem ks_We_63 : mx_csb "PegBoards$Weights" 63 mY_Ma_max = true := by
  simp only [mx_csb, Bool.and_eq_true, decide_eq_true_eq]
  exact ⟨wl_We_63, wt_Ma_max⟩
theorem wi_Mo : Cond.initialized "PegBoardsModel" ∈ mx_WS := mx_in 49 (by decide +kernel) rfl
theorem wc_Mo_thrown : Cond.code ⟨"PegBoardsModel", "thrown", "()I"⟩ prog_9_method_2_code 1 (some .int) ∈ mx_WS := mx_in 870 (by decide +kernel) rfl
theorem kd_Mo_thrown : mx_cdb mY_Mo_thrown 0 = true := by
  simp only [mx_cdb, Bool.and_eq_true, decide_eq_true_eq]
  exact ⟨⟨⟨⟨⟨wi_Mo, wc_Mo_thrown⟩, by decide +kernel⟩, by decide +kernel⟩, by decide +kernel⟩, by decide +kernel⟩
theorem wl_La_84 : Cond.methodLink "PegBoardsLaw" 84 ⟨"PegBoardsModel", "thrown", "()I"⟩ ∈ mx_WS := mx_in 867 (by decide +kernel) rfl
theorem wm_Mo_thrown : Cond.instanceMethod ⟨"PegBoardsModel", "thrown", "()I"⟩ ∈ mx_WS := mx_in 868 (by decide +kernel) rfl
theorem wv_Mo_thrown : Cond.selects "PegBoardsModel" ⟨"PegBoardsModel", "thrown", "()I"⟩ ⟨"PegBoardsModel", "thrown", "()I"⟩ ∈ mx_WS := mx_in 869 (by decide +kernel) rfl
theorem kv_La_84 : mx_cvb "PegBoardsLaw" 84 mY_Mo_thrown = true := by
  simp only [mx_cvb, Bool.and_eq_true, decide_eq_true_eq]
  exact ⟨⟨wl_La_84, wm_Mo_thrown⟩, wv_Mo_thrown⟩
theorem wc_Mo_clear : Cond.code ⟨"PegBoardsModel", "clear", "(Z)V"⟩ prog_9_method_3_code 3 none ∈ mx_WS := mx_in 874 (by decide +kernel) rfl
theorem kd_Mo_clear : mx_cdb mY_Mo_clear 1 = true := by
  simp only [mx_cdb, Bool.and_eq_true, decide_eq_true_eq]
  exact ⟨⟨⟨⟨⟨wi_Mo, wc_Mo_clear⟩, by decide +kernel⟩, by decide +kernel⟩, by decide +kernel⟩, by decide +kernel⟩
theorem wl_La_77 : Cond.methodLink "PegBoardsLaw" 77 ⟨"PegBoardsModel", "clear", "(Z)V"⟩ ∈ mx_WS := mx_in 871 (by decide +kernel) rfl
theorem wm_Mo_clear : Cond.instanceMethod ⟨"PegBoardsModel", "clear", "(Z)V"⟩ ∈ mx_WS := mx_in 872 (by decide +kernel) rfl
theorem wv_Mo_clear : Cond.selects "PegBoardsModel" ⟨"PegBoardsModel", "clear", "(Z)V"⟩ ⟨"PegBoardsModel", "clear", "(Z)V"⟩ ∈ mx_WS := mx_in 873 (by decide +kernel) rfl
theorem kv_La_77 : mx_cvb "PegBoardsLaw" 77 mY_Mo_clear = true := by
  simp only [mx_cvb, Bool.and_eq_true, decide_eq_true_eq]
  exact ⟨⟨wl_La_77, wm_Mo_clear⟩, wv_Mo_clear⟩
theorem wc_Mo_hole : Cond.code ⟨"PegBoardsModel", "hole", "(II)I"⟩ prog_9_method_5_code 3 (some .int) ∈ mx_WS := mx_in 878 (by decide +kernel) rfl
theorem kd_Mo_hole : mx_cdb mY_Mo_hole 2 = true := by
  simp only [mx_cdb, Bool.and_eq_true, decide_eq_true_eq]
  exact ⟨⟨⟨⟨⟨wi_Mo, wc_Mo_hole⟩, by decide +kernel⟩, by decide +kernel⟩, by decide +kernel⟩, by decide +kernel⟩
theorem wl_La_83 : Cond.methodLink "PegBoardsLaw" 83 ⟨"PegBoardsModel", "hole", "(II)I"⟩ ∈ mx_WS := mx_in 875 (by decide +kernel) rfl
theorem wm_Mo_hole : Cond.instanceMethod ⟨"PegBoardsModel", "hole", "(II)I"⟩ ∈ mx_WS := mx_in 876 (by decide +kernel) rfl
theorem wv_Mo_hole : Cond.selects "PegBoardsModel" ⟨"PegBoardsModel", "hole", "(II)I"⟩ ⟨"PegBoardsModel", "hole", "(II)I"⟩ ∈ mx_WS := mx_in 877 (by decide +kernel) rfl
theorem kv_La_83 : mx_cvb "PegBoardsLaw" 83 mY_Mo_hole = true := by
  simp only [mx_cvb, Bool.and_eq_true, decide_eq_true_eq]
  exact ⟨⟨wl_La_83, wm_Mo_hole⟩, wv_Mo_hole⟩
theorem wc_Mo_off : Cond.code ⟨"PegBoardsModel", "off", "(II)Z"⟩ prog_9_method_4_code 2 (some .boolean) ∈ mx_WS := mx_in 881 (by decide +kernel) rfl
theorem kd_Mo_off : mx_cdb mY_Mo_off 2 = true := by
  simp only [mx_cdb, Bool.and_eq_true, decide_eq_true_eq]
  exact ⟨⟨⟨⟨⟨wi_Mo, wc_Mo_off⟩, by decide +kernel⟩, by decide +kernel⟩, by decide +kernel⟩, by decide +kernel⟩
theorem wl_Mo_91 : Cond.methodLink "PegBoardsModel" 91 ⟨"PegBoardsModel", "off", "(II)Z"⟩ ∈ mx_WS := mx_in 879 (by decide +kernel) rfl
theorem wt_Mo_off : Cond.static ⟨"PegBoardsModel", "off", "(II)Z"⟩ ∈ mx_WS := mx_in 880 (by decide +kernel) rfl
theorem ks_Mo_91 : mx_csb "PegBoardsModel" 91 mY_Mo_off = true := by
  simp only [mx_csb, Bool.and_eq_true, decide_eq_true_eq]
  exact ⟨wl_Mo_91, wt_Mo_off⟩
theorem wc_Mo_freeze : Cond.code ⟨"PegBoardsModel", "freeze", "()I"⟩ prog_9_method_11_code 6 (some .int) ∈ mx_WS := mx_in 885 (by decide +kernel) rfl
theorem kd_Mo_freeze : mx_cdb mY_Mo_freeze 0 = true := by
  simp only [mx_cdb, Bool.and_eq_true, decide_eq_true_eq]
  exact ⟨⟨⟨⟨⟨wi_Mo, wc_Mo_freeze⟩, by decide +kernel⟩, by decide +kernel⟩, by decide +kernel⟩, by decide +kernel⟩
theorem wl_La_90 : Cond.methodLink "PegBoardsLaw" 90 ⟨"PegBoardsModel", "freeze", "()I"⟩ ∈ mx_WS := mx_in 882 (by decide +kernel) rfl
theorem wm_Mo_freeze : Cond.instanceMethod ⟨"PegBoardsModel", "freeze", "()I"⟩ ∈ mx_WS := mx_in 883 (by decide +kernel) rfl
theorem wv_Mo_freeze : Cond.selects "PegBoardsModel" ⟨"PegBoardsModel", "freeze", "()I"⟩ ⟨"PegBoardsModel", "freeze", "()I"⟩ ∈ mx_WS := mx_in 884 (by decide +kernel) rfl
theorem kv_La_90 : mx_cvb "PegBoardsLaw" 90 mY_Mo_freeze = true := by
  simp only [mx_cvb, Bool.and_eq_true, decide_eq_true_eq]
  exact ⟨⟨wl_La_90, wm_Mo_freeze⟩, wv_Mo_freeze⟩
theorem wc_Mo_turns : Cond.code ⟨"PegBoardsModel", "turns", "()I"⟩ prog_9_method_9_code 1 (some .int) ∈ mx_WS := mx_in 889 (by decide +kernel) rfl
theorem kd_Mo_turns : mx_cdb mY_Mo_turns 0 = true := by
  simp only [mx_cdb, Bool.and_eq_true, decide_eq_true_eq]
  exact ⟨⟨⟨⟨⟨wi_Mo, wc_Mo_turns⟩, by decide +kernel⟩, by decide +kernel⟩, by decide +kernel⟩, by decide +kernel⟩
theorem wl_Mo_95 : Cond.methodLink "PegBoardsModel" 95 ⟨"PegBoardsModel", "turns", "()I"⟩ ∈ mx_WS := mx_in 886 (by decide +kernel) rfl
theorem wm_Mo_turns : Cond.instanceMethod ⟨"PegBoardsModel", "turns", "()I"⟩ ∈ mx_WS := mx_in 888 (by decide +kernel) rfl
theorem wv_Mo_turns : Cond.selects "PegBoardsModel" ⟨"PegBoardsModel", "turns", "()I"⟩ ⟨"PegBoardsModel", "turns", "()I"⟩ ∈ mx_WS := mx_in 19 (by decide +kernel) rfl
theorem kv_Mo_95 : mx_cvb "PegBoardsModel" 95 mY_Mo_turns = true := by
  simp only [mx_cvb, Bool.and_eq_true, decide_eq_true_eq]
  exact ⟨⟨wl_Mo_95, wm_Mo_turns⟩, wv_Mo_turns⟩
theorem wc_Mo_down : Cond.code ⟨"PegBoardsModel", "down", "(I)I"⟩ prog_9_method_7_code 2 (some .int) ∈ mx_WS := mx_in 893 (by decide +kernel) rfl
theorem kd_Mo_down : mx_cdb mY_Mo_down 1 = true := by
  simp only [mx_cdb, Bool.and_eq_true, decide_eq_true_eq]
  exact ⟨⟨⟨⟨⟨wi_Mo, wc_Mo_down⟩, by decide +kernel⟩, by decide +kernel⟩, by decide +kernel⟩, by decide +kernel⟩
theorem wl_Mo_103 : Cond.methodLink "PegBoardsModel" 103 ⟨"PegBoardsModel", "down", "(I)I"⟩ ∈ mx_WS := mx_in 890 (by decide +kernel) rfl
theorem wm_Mo_down : Cond.instanceMethod ⟨"PegBoardsModel", "down", "(I)I"⟩ ∈ mx_WS := mx_in 892 (by decide +kernel) rfl
theorem wv_Mo_down : Cond.selects "PegBoardsModel" ⟨"PegBoardsModel", "down", "(I)I"⟩ ⟨"PegBoardsModel", "down", "(I)I"⟩ ∈ mx_WS := mx_in 20 (by decide +kernel) rfl
theorem kv_Mo_103 : mx_cvb "PegBoardsModel" 103 mY_Mo_down = true := by
  simp only [mx_cvb, Bool.and_eq_true, decide_eq_true_eq]
  exact ⟨⟨wl_Mo_103, wm_Mo_down⟩, wv_Mo_down⟩
theorem wc_Mo_right : Cond.code ⟨"PegBoardsModel", "right", "(I)I"⟩ prog_9_method_8_code 2 (some .int) ∈ mx_WS := mx_in 897 (by decide +kernel) rfl
theorem kd_Mo_right : mx_cdb mY_Mo_right 1 = true := by
  simp only [mx_cdb, Bool.and_eq_true, decide_eq_true_eq]
  exact ⟨⟨⟨⟨⟨wi_Mo, wc_Mo_right⟩, by decide +kernel⟩, by decide +kernel⟩, by decide +kernel⟩, by decide +kernel⟩
theorem wl_Mo_107 : Cond.methodLink "PegBoardsModel" 107 ⟨"PegBoardsModel", "right", "(I)I"⟩ ∈ mx_WS := mx_in 894 (by decide +kernel) rfl
theorem wm_Mo_right : Cond.instanceMethod ⟨"PegBoardsModel", "right", "(I)I"⟩ ∈ mx_WS := mx_in 896 (by decide +kernel) rfl
theorem wv_Mo_right : Cond.selects "PegBoardsModel" ⟨"PegBoardsModel", "right", "(I)I"⟩ ⟨"PegBoardsModel", "right", "(I)I"⟩ ∈ mx_WS := mx_in 21 (by decide +kernel) rfl
theorem kv_Mo_107 : mx_cvb "PegBoardsModel" 107 mY_Mo_right = true := by
  simp only [mx_cvb, Bool.and_eq_true, decide_eq_true_eq]
  exact ⟨⟨wl_Mo_107, wm_Mo_right⟩, wv_Mo_right⟩
theorem wc_Mo_numberAt : Cond.code ⟨"PegBoardsModel", "numberAt", "(II)I"⟩ prog_9_method_6_code 3 (some .int) ∈ mx_WS := mx_in 901 (by decide +kernel) rfl
theorem kd_Mo_numberAt : mx_cdb mY_Mo_numberAt 2 = true := by
  simp only [mx_cdb, Bool.and_eq_true, decide_eq_true_eq]
  exact ⟨⟨⟨⟨⟨wi_Mo, wc_Mo_numberAt⟩, by decide +kernel⟩, by decide +kernel⟩, by decide +kernel⟩, by decide +kernel⟩
theorem wl_Mo_99 : Cond.methodLink "PegBoardsModel" 99 ⟨"PegBoardsModel", "numberAt", "(II)I"⟩ ∈ mx_WS := mx_in 898 (by decide +kernel) rfl
theorem wm_Mo_numberAt : Cond.instanceMethod ⟨"PegBoardsModel", "numberAt", "(II)I"⟩ ∈ mx_WS := mx_in 900 (by decide +kernel) rfl
theorem wv_Mo_numberAt : Cond.selects "PegBoardsModel" ⟨"PegBoardsModel", "numberAt", "(II)I"⟩ ⟨"PegBoardsModel", "numberAt", "(II)I"⟩ ∈ mx_WS := mx_in 22 (by decide +kernel) rfl
theorem kv_Mo_99 : mx_cvb "PegBoardsModel" 99 mY_Mo_numberAt = true := by
  simp only [mx_cvb, Bool.and_eq_true, decide_eq_true_eq]
  exact ⟨⟨wl_Mo_99, wm_Mo_numberAt⟩, wv_Mo_numberAt⟩
theorem wc_Mo_isSymmetry : Cond.code ⟨"PegBoardsModel", "isSymmetry", "(I)Z"⟩ prog_9_method_10_code 12 (some .boolean) ∈ mx_WS := mx_in 905 (by decide +kernel) rfl
theorem kd_Mo_isSymmetry : mx_cdb mY_Mo_isSymmetry 1 = true := by
  simp only [mx_cdb, Bool.and_eq_true, decide_eq_true_eq]
  exact ⟨⟨⟨⟨⟨wi_Mo, wc_Mo_isSymmetry⟩, by decide +kernel⟩, by decide +kernel⟩, by decide +kernel⟩, by decide +kernel⟩
theorem wl_Mo_110 : Cond.methodLink "PegBoardsModel" 110 ⟨"PegBoardsModel", "isSymmetry", "(I)Z"⟩ ∈ mx_WS := mx_in 902 (by decide +kernel) rfl
theorem wm_Mo_isSymmetry : Cond.instanceMethod ⟨"PegBoardsModel", "isSymmetry", "(I)Z"⟩ ∈ mx_WS := mx_in 904 (by decide +kernel) rfl
theorem wv_Mo_isSymmetry : Cond.selects "PegBoardsModel" ⟨"PegBoardsModel", "isSymmetry", "(I)Z"⟩ ⟨"PegBoardsModel", "isSymmetry", "(I)Z"⟩ ∈ mx_WS := mx_in 23 (by decide +kernel) rfl
theorem kv_Mo_110 : mx_cvb "PegBoardsModel" 110 mY_Mo_isSymmetry = true := by
  simp only [mx_cvb, Bool.and_eq_true, decide_eq_true_eq]
  exact ⟨⟨wl_Mo_110, wm_Mo_isSymmetry⟩, wv_Mo_isSymmetry⟩
theorem wc_Mo_at : Cond.code ⟨"PegBoardsModel", "at", "(II)I"⟩ prog_9_method_12_code 3 (some .int) ∈ mx_WS := mx_in 909 (by decide +kernel) rfl
theorem kd_Mo_at : mx_cdb mY_Mo_at 2 = true := by
  simp only [mx_cdb, Bool.and_eq_true, decide_eq_true_eq]
  exact ⟨⟨⟨⟨⟨wi_Mo, wc_Mo_at⟩, by decide +kernel⟩, by decide +kernel⟩, by decide +kernel⟩, by decide +kernel⟩
theorem wl_La_94 : Cond.methodLink "PegBoardsLaw" 94 ⟨"PegBoardsModel", "at", "(II)I"⟩ ∈ mx_WS := mx_in 906 (by decide +kernel) rfl
theorem wm_Mo_at : Cond.instanceMethod ⟨"PegBoardsModel", "at", "(II)I"⟩ ∈ mx_WS := mx_in 907 (by decide +kernel) rfl
theorem wv_Mo_at : Cond.selects "PegBoardsModel" ⟨"PegBoardsModel", "at", "(II)I"⟩ ⟨"PegBoardsModel", "at", "(II)I"⟩ ∈ mx_WS := mx_in 908 (by decide +kernel) rfl
theorem kv_La_94 : mx_cvb "PegBoardsLaw" 94 mY_Mo_at = true := by
  simp only [mx_cvb, Bool.and_eq_true, decide_eq_true_eq]
  exact ⟨⟨wl_La_94, wm_Mo_at⟩, wv_Mo_at⟩
theorem wc_Mo_jump : Cond.code ⟨"PegBoardsModel", "jump", "(II)I"⟩ prog_9_method_15_code 3 (some .int) ∈ mx_WS := mx_in 913 (by decide +kernel) rfl
theorem kd_Mo_jump : mx_cdb mY_Mo_jump 2 = true := by
  simp only [mx_cdb, Bool.and_eq_true, decide_eq_true_eq]
  exact ⟨⟨⟨⟨⟨wi_Mo, wc_Mo_jump⟩, by decide +kernel⟩, by decide +kernel⟩, by decide +kernel⟩, by decide +kernel⟩
theorem wl_La_97 : Cond.methodLink "PegBoardsLaw" 97 ⟨"PegBoardsModel", "jump", "(II)I"⟩ ∈ mx_WS := mx_in 910 (by decide +kernel) rfl
theorem wm_Mo_jump : Cond.instanceMethod ⟨"PegBoardsModel", "jump", "(II)I"⟩ ∈ mx_WS := mx_in 911 (by decide +kernel) rfl
theorem wv_Mo_jump : Cond.selects "PegBoardsModel" ⟨"PegBoardsModel", "jump", "(II)I"⟩ ⟨"PegBoardsModel", "jump", "(II)I"⟩ ∈ mx_WS := mx_in 912 (by decide +kernel) rfl
theorem kv_La_97 : mx_cvb "PegBoardsLaw" 97 mY_Mo_jump = true := by
  simp only [mx_cvb, Bool.and_eq_true, decide_eq_true_eq]
  exact ⟨⟨wl_La_97, wm_Mo_jump⟩, wv_Mo_jump⟩
theorem wc_Mo_noJump : Cond.code ⟨"PegBoardsModel", "noJump", "(I)Z"⟩ prog_9_method_13_code 2 (some .boolean) ∈ mx_WS := mx_in 917 (by decide +kernel) rfl
theorem kd_Mo_noJump : mx_cdb mY_Mo_noJump 1 = true := by
  simp only [mx_cdb, Bool.and_eq_true, decide_eq_true_eq]
  exact ⟨⟨⟨⟨⟨wi_Mo, wc_Mo_noJump⟩, by decide +kernel⟩, by decide +kernel⟩, by decide +kernel⟩, by decide +kernel⟩
theorem wl_Mo_114 : Cond.methodLink "PegBoardsModel" 114 ⟨"PegBoardsModel", "noJump", "(I)Z"⟩ ∈ mx_WS := mx_in 914 (by decide +kernel) rfl
theorem wm_Mo_noJump : Cond.instanceMethod ⟨"PegBoardsModel", "noJump", "(I)Z"⟩ ∈ mx_WS := mx_in 916 (by decide +kernel) rfl
theorem wv_Mo_noJump : Cond.selects "PegBoardsModel" ⟨"PegBoardsModel", "noJump", "(I)Z"⟩ ⟨"PegBoardsModel", "noJump", "(I)Z"⟩ ∈ mx_WS := mx_in 24 (by decide +kernel) rfl
theorem kv_Mo_114 : mx_cvb "PegBoardsModel" 114 mY_Mo_noJump = true := by
  simp only [mx_cvb, Bool.and_eq_true, decide_eq_true_eq]
  exact ⟨⟨wl_Mo_114, wm_Mo_noJump⟩, wv_Mo_noJump⟩
theorem wc_Mo_place : Cond.code ⟨"PegBoardsModel", "place", "(ZI)V"⟩ prog_9_method_16_code 3 none ∈ mx_WS := mx_in 921 (by decide +kernel) rfl
theorem kd_Mo_place : mx_cdb mY_Mo_place 2 = true := by
  simp only [mx_cdb, Bool.and_eq_true, decide_eq_true_eq]
  exact ⟨⟨⟨⟨⟨wi_Mo, wc_Mo_place⟩, by decide +kernel⟩, by decide +kernel⟩, by decide +kernel⟩, by decide +kernel⟩
theorem wl_La_101 : Cond.methodLink "PegBoardsLaw" 101 ⟨"PegBoardsModel", "place", "(ZI)V"⟩ ∈ mx_WS := mx_in 918 (by decide +kernel) rfl
theorem wm_Mo_place : Cond.instanceMethod ⟨"PegBoardsModel", "place", "(ZI)V"⟩ ∈ mx_WS := mx_in 919 (by decide +kernel) rfl
theorem wv_Mo_place : Cond.selects "PegBoardsModel" ⟨"PegBoardsModel", "place", "(ZI)V"⟩ ⟨"PegBoardsModel", "place", "(ZI)V"⟩ ∈ mx_WS := mx_in 920 (by decide +kernel) rfl
theorem kv_La_101 : mx_cvb "PegBoardsLaw" 101 mY_Mo_place = true := by
  simp only [mx_cvb, Bool.and_eq_true, decide_eq_true_eq]
  exact ⟨⟨wl_La_101, wm_Mo_place⟩, wv_Mo_place⟩
theorem wc_Mo_noPosition : Cond.code ⟨"PegBoardsModel", "noPosition", "(I)Z"⟩ prog_9_method_14_code 2 (some .boolean) ∈ mx_WS := mx_in 925 (by decide +kernel) rfl
theorem kd_Mo_noPosition : mx_cdb mY_Mo_noPosition 1 = true := by
  simp only [mx_cdb, Bool.and_eq_true, decide_eq_true_eq]
  exact ⟨⟨⟨⟨⟨wi_Mo, wc_Mo_noPosition⟩, by decide +kernel⟩, by decide +kernel⟩, by decide +kernel⟩, by decide +kernel⟩
theorem wl_Mo_117 : Cond.methodLink "PegBoardsModel" 117 ⟨"PegBoardsModel", "noPosition", "(I)Z"⟩ ∈ mx_WS := mx_in 922 (by decide +kernel) rfl
theorem wm_Mo_noPosition : Cond.instanceMethod ⟨"PegBoardsModel", "noPosition", "(I)Z"⟩ ∈ mx_WS := mx_in 924 (by decide +kernel) rfl
theorem wv_Mo_noPosition : Cond.selects "PegBoardsModel" ⟨"PegBoardsModel", "noPosition", "(I)Z"⟩ ⟨"PegBoardsModel", "noPosition", "(I)Z"⟩ ∈ mx_WS := mx_in 25 (by decide +kernel) rfl
theorem kv_Mo_117 : mx_cvb "PegBoardsModel" 117 mY_Mo_noPosition = true := by
  simp only [mx_cvb, Bool.and_eq_true, decide_eq_true_eq]
  exact ⟨⟨wl_Mo_117, wm_Mo_noPosition⟩, wv_Mo_noPosition⟩
theorem wc_Mo_after : Cond.code ⟨"PegBoardsModel", "after", "(II)I"⟩ prog_9_method_19_code 3 (some .int) ∈ mx_WS := mx_in 929 (by decide +kernel) rfl
theorem kd_Mo_after : mx_cdb mY_Mo_after 2 = true := by
  simp only [mx_cdb, Bool.and_eq_true, decide_eq_true_eq]
  exact ⟨⟨⟨⟨⟨wi_Mo, wc_Mo_after⟩, by decide +kernel⟩, by decide +kernel⟩, by decide +kernel⟩, by decide +kernel⟩
theorem wl_La_104 : Cond.methodLink "PegBoardsLaw" 104 ⟨"PegBoardsModel", "after", "(II)I"⟩ ∈ mx_WS := mx_in 926 (by decide +kernel) rfl
theorem wm_Mo_after : Cond.instanceMethod ⟨"PegBoardsModel", "after", "(II)I"⟩ ∈ mx_WS := mx_in 927 (by decide +kernel) rfl
theorem wv_Mo_after : Cond.selects "PegBoardsModel" ⟨"PegBoardsModel", "after", "(II)I"⟩ ⟨"PegBoardsModel", "after", "(II)I"⟩ ∈ mx_WS := mx_in 928 (by decide +kernel) rfl
theorem kv_La_104 : mx_cvb "PegBoardsLaw" 104 mY_Mo_after = true := by
  simp only [mx_cvb, Bool.and_eq_true, decide_eq_true_eq]
  exact ⟨⟨wl_La_104, wm_Mo_after⟩, wv_Mo_after⟩
theorem wc_Mo_made : Cond.code ⟨"PegBoardsModel", "made", "(II)I"⟩ prog_9_method_18_code 3 (some .int) ∈ mx_WS := mx_in 933 (by decide +kernel) rfl
theorem kd_Mo_made : mx_cdb mY_Mo_made 2 = true := by
  simp only [mx_cdb, Bool.and_eq_true, decide_eq_true_eq]
  exact ⟨⟨⟨⟨⟨wi_Mo, wc_Mo_made⟩, by decide +kernel⟩, by decide +kernel⟩, by decide +kernel⟩, by decide +kernel⟩
theorem wl_Mo_123 : Cond.methodLink "PegBoardsModel" 123 ⟨"PegBoardsModel", "made", "(II)I"⟩ ∈ mx_WS := mx_in 930 (by decide +kernel) rfl
theorem wm_Mo_made : Cond.instanceMethod ⟨"PegBoardsModel", "made", "(II)I"⟩ ∈ mx_WS := mx_in 932 (by decide +kernel) rfl
theorem wv_Mo_made : Cond.selects "PegBoardsModel" ⟨"PegBoardsModel", "made", "(II)I"⟩ ⟨"PegBoardsModel", "made", "(II)I"⟩ ∈ mx_WS := mx_in 26 (by decide +kernel) rfl
theorem kv_Mo_123 : mx_cvb "PegBoardsModel" 123 mY_Mo_made = true := by
  simp only [mx_cvb, Bool.and_eq_true, decide_eq_true_eq]
  exact ⟨⟨wl_Mo_123, wm_Mo_made⟩, wv_Mo_made⟩
theorem wc_Mo_bit : Cond.code ⟨"PegBoardsModel", "bit", "(II)I"⟩ prog_9_method_17_code 2 (some .int) ∈ mx_WS := mx_in 936 (by decide +kernel) rfl
theorem kd_Mo_bit : mx_cdb mY_Mo_bit 2 = true := by
  simp only [mx_cdb, Bool.and_eq_true, decide_eq_true_eq]
  exact ⟨⟨⟨⟨⟨wi_Mo, wc_Mo_bit⟩, by decide +kernel⟩, by decide +kernel⟩, by decide +kernel⟩, by decide +kernel⟩
theorem wl_Mo_120 : Cond.methodLink "PegBoardsModel" 120 ⟨"PegBoardsModel", "bit", "(II)I"⟩ ∈ mx_WS := mx_in 934 (by decide +kernel) rfl
theorem wt_Mo_bit : Cond.static ⟨"PegBoardsModel", "bit", "(II)I"⟩ ∈ mx_WS := mx_in 935 (by decide +kernel) rfl
theorem ks_Mo_120 : mx_csb "PegBoardsModel" 120 mY_Mo_bit = true := by
  simp only [mx_csb, Bool.and_eq_true, decide_eq_true_eq]
  exact ⟨wl_Mo_120, wt_Mo_bit⟩
theorem wc_Mo_count : Cond.code ⟨"PegBoardsModel", "count", "(I)I"⟩ prog_9_method_25_code 2 (some .int) ∈ mx_WS := mx_in 940 (by decide +kernel) rfl
theorem kd_Mo_count : mx_cdb mY_Mo_count 1 = true := by
  simp only [mx_cdb, Bool.and_eq_true, decide_eq_true_eq]
  exact ⟨⟨⟨⟨⟨wi_Mo, wc_Mo_count⟩, by decide +kernel⟩, by decide +kernel⟩, by decide +kernel⟩, by decide +kernel⟩
theorem wl_La_108 : Cond.methodLink "PegBoardsLaw" 108 ⟨"PegBoardsModel", "count", "(I)I"⟩ ∈ mx_WS := mx_in 937 (by decide +kernel) rfl
theorem wm_Mo_count : Cond.instanceMethod ⟨"PegBoardsModel", "count", "(I)I"⟩ ∈ mx_WS := mx_in 938 (by decide +kernel) rfl
theorem wv_Mo_count : Cond.selects "PegBoardsModel" ⟨"PegBoardsModel", "count", "(I)I"⟩ ⟨"PegBoardsModel", "count", "(I)I"⟩ ∈ mx_WS := mx_in 939 (by decide +kernel) rfl
theorem kv_La_108 : mx_cvb "PegBoardsLaw" 108 mY_Mo_count = true := by
  simp only [mx_cvb, Bool.and_eq_true, decide_eq_true_eq]
  exact ⟨⟨wl_La_108, wm_Mo_count⟩, wv_Mo_count⟩
theorem wc_Mo_cannot : Cond.code ⟨"PegBoardsModel", "cannot", "(I)Z"⟩ prog_9_method_24_code 2 (some .boolean) ∈ mx_WS := mx_in 944 (by decide +kernel) rfl
theorem kd_Mo_cannot : mx_cdb mY_Mo_cannot 1 = true := by
  simp only [mx_cdb, Bool.and_eq_true, decide_eq_true_eq]
  exact ⟨⟨⟨⟨⟨wi_Mo, wc_Mo_cannot⟩, by decide +kernel⟩, by decide +kernel⟩, by decide +kernel⟩, by decide +kernel⟩
theorem wl_Mo_139 : Cond.methodLink "PegBoardsModel" 139 ⟨"PegBoardsModel", "cannot", "(I)Z"⟩ ∈ mx_WS := mx_in 941 (by decide +kernel) rfl
theorem wm_Mo_cannot : Cond.instanceMethod ⟨"PegBoardsModel", "cannot", "(I)Z"⟩ ∈ mx_WS := mx_in 943 (by decide +kernel) rfl
theorem wv_Mo_cannot : Cond.selects "PegBoardsModel" ⟨"PegBoardsModel", "cannot", "(I)Z"⟩ ⟨"PegBoardsModel", "cannot", "(I)Z"⟩ ∈ mx_WS := mx_in 27 (by decide +kernel) rfl
theorem kv_Mo_139 : mx_cvb "PegBoardsModel" 139 mY_Mo_cannot = true := by
  simp only [mx_cvb, Bool.and_eq_true, decide_eq_true_eq]
  exact ⟨⟨wl_Mo_139, wm_Mo_cannot⟩, wv_Mo_cannot⟩
theorem wc_Mo_reach : Cond.code ⟨"PegBoardsModel", "reach", "(I)Z"⟩ prog_9_method_23_code 5 (some .boolean) ∈ mx_WS := mx_in 948 (by decide +kernel) rfl
theorem kd_Mo_reach : mx_cdb mY_Mo_reach 1 = true := by
  simp only [mx_cdb, Bool.and_eq_true, decide_eq_true_eq]
  exact ⟨⟨⟨⟨⟨wi_Mo, wc_Mo_reach⟩, by decide +kernel⟩, by decide +kernel⟩, by decide +kernel⟩, by decide +kernel⟩
theorem wl_Mo_142 : Cond.methodLink "PegBoardsModel" 142 ⟨"PegBoardsModel", "reach", "(I)Z"⟩ ∈ mx_WS := mx_in 945 (by decide +kernel) rfl
theorem wm_Mo_reach : Cond.instanceMethod ⟨"PegBoardsModel", "reach", "(I)Z"⟩ ∈ mx_WS := mx_in 947 (by decide +kernel) rfl
theorem wv_Mo_reach : Cond.selects "PegBoardsModel" ⟨"PegBoardsModel", "reach", "(I)Z"⟩ ⟨"PegBoardsModel", "reach", "(I)Z"⟩ ∈ mx_WS := mx_in 28 (by decide +kernel) rfl
theorem kv_Mo_142 : mx_cvb "PegBoardsModel" 142 mY_Mo_reach = true := by
  simp only [mx_cvb, Bool.and_eq_true, decide_eq_true_eq]
  exact ⟨⟨wl_Mo_142, wm_Mo_reach⟩, wv_Mo_reach⟩
theorem wc_Mo_enter : Cond.code ⟨"PegBoardsModel", "enter", "(III)V"⟩ prog_9_method_22_code 4 none ∈ mx_WS := mx_in 952 (by decide +kernel) rfl
theorem kd_Mo_enter : mx_cdb mY_Mo_enter 3 = true := by
  simp only [mx_cdb, Bool.and_eq_true, decide_eq_true_eq]
  exact ⟨⟨⟨⟨⟨wi_Mo, wc_Mo_enter⟩, by decide +kernel⟩, by decide +kernel⟩, by decide +kernel⟩, by decide +kernel⟩
theorem wl_Mo_132 : Cond.methodLink "PegBoardsModel" 132 ⟨"PegBoardsModel", "enter", "(III)V"⟩ ∈ mx_WS := mx_in 949 (by decide +kernel) rfl
theorem wm_Mo_enter : Cond.instanceMethod ⟨"PegBoardsModel", "enter", "(III)V"⟩ ∈ mx_WS := mx_in 951 (by decide +kernel) rfl
theorem wv_Mo_enter : Cond.selects "PegBoardsModel" ⟨"PegBoardsModel", "enter", "(III)V"⟩ ⟨"PegBoardsModel", "enter", "(III)V"⟩ ∈ mx_WS := mx_in 29 (by decide +kernel) rfl
theorem kv_Mo_132 : mx_cvb "PegBoardsModel" 132 mY_Mo_enter = true := by
  simp only [mx_cvb, Bool.and_eq_true, decide_eq_true_eq]
  exact ⟨⟨wl_Mo_132, wm_Mo_enter⟩, wv_Mo_enter⟩
theorem wc_Mo_lookAt : Cond.code ⟨"PegBoardsModel", "lookAt", "(I)I"⟩ prog_9_method_20_code 3 (some .int) ∈ mx_WS := mx_in 956 (by decide +kernel) rfl
theorem kd_Mo_lookAt : mx_cdb mY_Mo_lookAt 1 = true := by
  simp only [mx_cdb, Bool.and_eq_true, decide_eq_true_eq]
  exact ⟨⟨⟨⟨⟨wi_Mo, wc_Mo_lookAt⟩, by decide +kernel⟩, by decide +kernel⟩, by decide +kernel⟩, by decide +kernel⟩
theorem wl_Mo_126 : Cond.methodLink "PegBoardsModel" 126 ⟨"PegBoardsModel", "lookAt", "(I)I"⟩ ∈ mx_WS := mx_in 953 (by decide +kernel) rfl
theorem wm_Mo_lookAt : Cond.instanceMethod ⟨"PegBoardsModel", "lookAt", "(I)I"⟩ ∈ mx_WS := mx_in 955 (by decide +kernel) rfl
theorem wv_Mo_lookAt : Cond.selects "PegBoardsModel" ⟨"PegBoardsModel", "lookAt", "(I)I"⟩ ⟨"PegBoardsModel", "lookAt", "(I)I"⟩ ∈ mx_WS := mx_in 30 (by decide +kernel) rfl
theorem kv_Mo_126 : mx_cvb "PegBoardsModel" 126 mY_Mo_lookAt = true := by
  simp only [mx_cvb, Bool.and_eq_true, decide_eq_true_eq]
  exact ⟨⟨wl_Mo_126, wm_Mo_lookAt⟩, wv_Mo_lookAt⟩
theorem wc_Mo_numberOf : Cond.code ⟨"PegBoardsModel", "numberOf", "(I)I"⟩ prog_9_method_21_code 2 (some .int) ∈ mx_WS := mx_in 960 (by decide +kernel) rfl
theorem kd_Mo_numberOf : mx_cdb mY_Mo_numberOf 1 = true := by
  simp only [mx_cdb, Bool.and_eq_true, decide_eq_true_eq]
  exact ⟨⟨⟨⟨⟨wi_Mo, wc_Mo_numberOf⟩, by decide +kernel⟩, by decide +kernel⟩, by decide +kernel⟩, by decide +kernel⟩
theorem wl_Mo_136 : Cond.methodLink "PegBoardsModel" 136 ⟨"PegBoardsModel", "numberOf", "(I)I"⟩ ∈ mx_WS := mx_in 957 (by decide +kernel) rfl
theorem wm_Mo_numberOf : Cond.instanceMethod ⟨"PegBoardsModel", "numberOf", "(I)I"⟩ ∈ mx_WS := mx_in 959 (by decide +kernel) rfl
theorem wv_Mo_numberOf : Cond.selects "PegBoardsModel" ⟨"PegBoardsModel", "numberOf", "(I)I"⟩ ⟨"PegBoardsModel", "numberOf", "(I)I"⟩ ∈ mx_WS := mx_in 31 (by decide +kernel) rfl
theorem kv_Mo_136 : mx_cvb "PegBoardsModel" 136 mY_Mo_numberOf = true := by
  simp only [mx_cvb, Bool.and_eq_true, decide_eq_true_eq]
  exact ⟨⟨wl_Mo_136, wm_Mo_numberOf⟩, wv_Mo_numberOf⟩
theorem wc_Mo_solve : Cond.code ⟨"PegBoardsModel", "solve", "(I)I"⟩ prog_9_method_26_code 3 (some .int) ∈ mx_WS := mx_in 964 (by decide +kernel) rfl
theorem kd_Mo_solve : mx_cdb mY_Mo_solve 1 = true := by
  simp only [mx_cdb, Bool.and_eq_true, decide_eq_true_eq]
  exact ⟨⟨⟨⟨⟨wi_Mo, wc_Mo_solve⟩, by decide +kernel⟩, by decide +kernel⟩, by decide +kernel⟩, by decide +kernel⟩
theorem wl_La_111 : Cond.methodLink "PegBoardsLaw" 111 ⟨"PegBoardsModel", "solve", "(I)I"⟩ ∈ mx_WS := mx_in 961 (by decide +kernel) rfl
theorem wm_Mo_solve : Cond.instanceMethod ⟨"PegBoardsModel", "solve", "(I)I"⟩ ∈ mx_WS := mx_in 962 (by decide +kernel) rfl
theorem wv_Mo_solve : Cond.selects "PegBoardsModel" ⟨"PegBoardsModel", "solve", "(I)I"⟩ ⟨"PegBoardsModel", "solve", "(I)I"⟩ ∈ mx_WS := mx_in 963 (by decide +kernel) rfl
theorem kv_La_111 : mx_cvb "PegBoardsLaw" 111 mY_Mo_solve = true := by
  simp only [mx_cvb, Bool.and_eq_true, decide_eq_true_eq]
  exact ⟨⟨wl_La_111, wm_Mo_solve⟩, wv_Mo_solve⟩
theorem wc_Mo_way : Cond.code ⟨"PegBoardsModel", "way", "(II)I"⟩ prog_9_method_27_code 7 (some .int) ∈ mx_WS := mx_in 968 (by decide +kernel) rfl
theorem kd_Mo_way : mx_cdb mY_Mo_way 2 = true := by
  simp only [mx_cdb, Bool.and_eq_true, decide_eq_true_eq]
  exact ⟨⟨⟨⟨⟨wi_Mo, wc_Mo_way⟩, by decide +kernel⟩, by decide +kernel⟩, by decide +kernel⟩, by decide +kernel⟩
theorem wl_La_114 : Cond.methodLink "PegBoardsLaw" 114 ⟨"PegBoardsModel", "way", "(II)I"⟩ ∈ mx_WS := mx_in 965 (by decide +kernel) rfl
theorem wm_Mo_way : Cond.instanceMethod ⟨"PegBoardsModel", "way", "(II)I"⟩ ∈ mx_WS := mx_in 966 (by decide +kernel) rfl
theorem wv_Mo_way : Cond.selects "PegBoardsModel" ⟨"PegBoardsModel", "way", "(II)I"⟩ ⟨"PegBoardsModel", "way", "(II)I"⟩ ∈ mx_WS := mx_in 967 (by decide +kernel) rfl
theorem kv_La_114 : mx_cvb "PegBoardsLaw" 114 mY_Mo_way = true := by
  simp only [mx_cvb, Bool.and_eq_true, decide_eq_true_eq]
  exact ⟨⟨wl_La_114, wm_Mo_way⟩, wv_Mo_way⟩
theorem wc_Mo_moves : Cond.code ⟨"PegBoardsModel", "moves", "(I)I"⟩ prog_9_method_30_code 5 (some .int) ∈ mx_WS := mx_in 972 (by decide +kernel) rfl
theorem kd_Mo_moves : mx_cdb mY_Mo_moves 1 = true := by
  simp only [mx_cdb, Bool.and_eq_true, decide_eq_true_eq]
  exact ⟨⟨⟨⟨⟨wi_Mo, wc_Mo_moves⟩, by decide +kernel⟩, by decide +kernel⟩, by decide +kernel⟩, by decide +kernel⟩
theorem wl_La_117 : Cond.methodLink "PegBoardsLaw" 117 ⟨"PegBoardsModel", "moves", "(I)I"⟩ ∈ mx_WS := mx_in 969 (by decide +kernel) rfl
theorem wm_Mo_moves : Cond.instanceMethod ⟨"PegBoardsModel", "moves", "(I)I"⟩ ∈ mx_WS := mx_in 970 (by decide +kernel) rfl
theorem wv_Mo_moves : Cond.selects "PegBoardsModel" ⟨"PegBoardsModel", "moves", "(I)I"⟩ ⟨"PegBoardsModel", "moves", "(I)I"⟩ ∈ mx_WS := mx_in 971 (by decide +kernel) rfl
theorem kv_La_117 : mx_cvb "PegBoardsLaw" 117 mY_Mo_moves = true := by
  simp only [mx_cvb, Bool.and_eq_true, decide_eq_true_eq]
  exact ⟨⟨wl_La_117, wm_Mo_moves⟩, wv_Mo_moves⟩
theorem wc_Mo_pegs : Cond.code ⟨"PegBoardsModel", "pegs", "(I)I"⟩ prog_9_method_28_code 4 (some .int) ∈ mx_WS := mx_in 976 (by decide +kernel) rfl
theorem kd_Mo_pegs : mx_cdb mY_Mo_pegs 1 = true := by
  simp only [mx_cdb, Bool.and_eq_true, decide_eq_true_eq]
  exact ⟨⟨⟨⟨⟨wi_Mo, wc_Mo_pegs⟩, by decide +kernel⟩, by decide +kernel⟩, by decide +kernel⟩, by decide +kernel⟩
theorem wl_Mo_145 : Cond.methodLink "PegBoardsModel" 145 ⟨"PegBoardsModel", "pegs", "(I)I"⟩ ∈ mx_WS := mx_in 973 (by decide +kernel) rfl
theorem wm_Mo_pegs : Cond.instanceMethod ⟨"PegBoardsModel", "pegs", "(I)I"⟩ ∈ mx_WS := mx_in 975 (by decide +kernel) rfl
theorem wv_Mo_pegs : Cond.selects "PegBoardsModel" ⟨"PegBoardsModel", "pegs", "(I)I"⟩ ⟨"PegBoardsModel", "pegs", "(I)I"⟩ ∈ mx_WS := mx_in 32 (by decide +kernel) rfl
theorem kv_Mo_145 : mx_cvb "PegBoardsModel" 145 mY_Mo_pegs = true := by
  simp only [mx_cvb, Bool.and_eq_true, decide_eq_true_eq]
  exact ⟨⟨wl_Mo_145, wm_Mo_pegs⟩, wv_Mo_pegs⟩
theorem wc_Mo_spread : Cond.code ⟨"PegBoardsModel", "spread", "(I)V"⟩ prog_9_method_29_code 7 none ∈ mx_WS := mx_in 980 (by decide +kernel) rfl
theorem kd_Mo_spread : mx_cdb mY_Mo_spread 1 = true := by
  simp only [mx_cdb, Bool.and_eq_true, decide_eq_true_eq]
  exact ⟨⟨⟨⟨⟨wi_Mo, wc_Mo_spread⟩, by decide +kernel⟩, by decide +kernel⟩, by decide +kernel⟩, by decide +kernel⟩
theorem wl_Mo_148 : Cond.methodLink "PegBoardsModel" 148 ⟨"PegBoardsModel", "spread", "(I)V"⟩ ∈ mx_WS := mx_in 977 (by decide +kernel) rfl
theorem wm_Mo_spread : Cond.instanceMethod ⟨"PegBoardsModel", "spread", "(I)V"⟩ ∈ mx_WS := mx_in 979 (by decide +kernel) rfl
theorem wv_Mo_spread : Cond.selects "PegBoardsModel" ⟨"PegBoardsModel", "spread", "(I)V"⟩ ⟨"PegBoardsModel", "spread", "(I)V"⟩ ∈ mx_WS := mx_in 33 (by decide +kernel) rfl
theorem kv_Mo_148 : mx_cvb "PegBoardsModel" 148 mY_Mo_spread = true := by
  simp only [mx_cvb, Bool.and_eq_true, decide_eq_true_eq]
  exact ⟨⟨wl_Mo_148, wm_Mo_spread⟩, wv_Mo_spread⟩
theorem wc_Mo_classes : Cond.code ⟨"PegBoardsModel", "classes", "(I)I"⟩ prog_9_method_33_code 6 (some .int) ∈ mx_WS := mx_in 984 (by decide +kernel) rfl
theorem kd_Mo_classes : mx_cdb mY_Mo_classes 1 = true := by
  simp only [mx_cdb, Bool.and_eq_true, decide_eq_true_eq]
  exact ⟨⟨⟨⟨⟨wi_Mo, wc_Mo_classes⟩, by decide +kernel⟩, by decide +kernel⟩, by decide +kernel⟩, by decide +kernel⟩
theorem wl_La_120 : Cond.methodLink "PegBoardsLaw" 120 ⟨"PegBoardsModel", "classes", "(I)I"⟩ ∈ mx_WS := mx_in 981 (by decide +kernel) rfl
theorem wm_Mo_classes : Cond.instanceMethod ⟨"PegBoardsModel", "classes", "(I)I"⟩ ∈ mx_WS := mx_in 982 (by decide +kernel) rfl
theorem wv_Mo_classes : Cond.selects "PegBoardsModel" ⟨"PegBoardsModel", "classes", "(I)I"⟩ ⟨"PegBoardsModel", "classes", "(I)I"⟩ ∈ mx_WS := mx_in 983 (by decide +kernel) rfl
theorem kv_La_120 : mx_cvb "PegBoardsLaw" 120 mY_Mo_classes = true := by
  simp only [mx_cvb, Bool.and_eq_true, decide_eq_true_eq]
  exact ⟨⟨wl_La_120, wm_Mo_classes⟩, wv_Mo_classes⟩
theorem wc_Mo_leastOf : Cond.code ⟨"PegBoardsModel", "leastOf", "(I)I"⟩ prog_9_method_32_code 5 (some .int) ∈ mx_WS := mx_in 988 (by decide +kernel) rfl
theorem kd_Mo_leastOf : mx_cdb mY_Mo_leastOf 1 = true := by
  simp only [mx_cdb, Bool.and_eq_true, decide_eq_true_eq]
  exact ⟨⟨⟨⟨⟨wi_Mo, wc_Mo_leastOf⟩, by decide +kernel⟩, by decide +kernel⟩, by decide +kernel⟩, by decide +kernel⟩
theorem wl_Mo_158 : Cond.methodLink "PegBoardsModel" 158 ⟨"PegBoardsModel", "leastOf", "(I)I"⟩ ∈ mx_WS := mx_in 985 (by decide +kernel) rfl
theorem wm_Mo_leastOf : Cond.instanceMethod ⟨"PegBoardsModel", "leastOf", "(I)I"⟩ ∈ mx_WS := mx_in 987 (by decide +kernel) rfl
theorem wv_Mo_leastOf : Cond.selects "PegBoardsModel" ⟨"PegBoardsModel", "leastOf", "(I)I"⟩ ⟨"PegBoardsModel", "leastOf", "(I)I"⟩ ∈ mx_WS := mx_in 34 (by decide +kernel) rfl
theorem kv_Mo_158 : mx_cvb "PegBoardsModel" 158 mY_Mo_leastOf = true := by
  simp only [mx_cvb, Bool.and_eq_true, decide_eq_true_eq]
  exact ⟨⟨wl_Mo_158, wm_Mo_leastOf⟩, wv_Mo_leastOf⟩
theorem wc_Mo_imaged : Cond.code ⟨"PegBoardsModel", "imaged", "(II)I"⟩ prog_9_method_31_code 5 (some .int) ∈ mx_WS := mx_in 992 (by decide +kernel) rfl
theorem kd_Mo_imaged : mx_cdb mY_Mo_imaged 2 = true := by
  simp only [mx_cdb, Bool.and_eq_true, decide_eq_true_eq]
  exact ⟨⟨⟨⟨⟨wi_Mo, wc_Mo_imaged⟩, by decide +kernel⟩, by decide +kernel⟩, by decide +kernel⟩, by decide +kernel⟩
theorem wl_Mo_152 : Cond.methodLink "PegBoardsModel" 152 ⟨"PegBoardsModel", "imaged", "(II)I"⟩ ∈ mx_WS := mx_in 989 (by decide +kernel) rfl
theorem wm_Mo_imaged : Cond.instanceMethod ⟨"PegBoardsModel", "imaged", "(II)I"⟩ ∈ mx_WS := mx_in 991 (by decide +kernel) rfl
theorem wv_Mo_imaged : Cond.selects "PegBoardsModel" ⟨"PegBoardsModel", "imaged", "(II)I"⟩ ⟨"PegBoardsModel", "imaged", "(II)I"⟩ ∈ mx_WS := mx_in 35 (by decide +kernel) rfl
theorem kv_Mo_152 : mx_cvb "PegBoardsModel" 152 mY_Mo_imaged = true := by
  simp only [mx_cvb, Bool.and_eq_true, decide_eq_true_eq]
  exact ⟨⟨wl_Mo_152, wm_Mo_imaged⟩, wv_Mo_imaged⟩
theorem wc_Mo_symmetries : Cond.code ⟨"PegBoardsModel", "symmetries", "()I"⟩ prog_9_method_34_code 1 (some .int) ∈ mx_WS := mx_in 996 (by decide +kernel) rfl
theorem kd_Mo_symmetries : mx_cdb mY_Mo_symmetries 0 = true := by
  simp only [mx_cdb, Bool.and_eq_true, decide_eq_true_eq]
  exact ⟨⟨⟨⟨⟨wi_Mo, wc_Mo_symmetries⟩, by decide +kernel⟩, by decide +kernel⟩, by decide +kernel⟩, by decide +kernel⟩
theorem wl_La_124 : Cond.methodLink "PegBoardsLaw" 124 ⟨"PegBoardsModel", "symmetries", "()I"⟩ ∈ mx_WS := mx_in 993 (by decide +kernel) rfl
theorem wm_Mo_symmetries : Cond.instanceMethod ⟨"PegBoardsModel", "symmetries", "()I"⟩ ∈ mx_WS := mx_in 994 (by decide +kernel) rfl
theorem wv_Mo_symmetries : Cond.selects "PegBoardsModel" ⟨"PegBoardsModel", "symmetries", "()I"⟩ ⟨"PegBoardsModel", "symmetries", "()I"⟩ ∈ mx_WS := mx_in 995 (by decide +kernel) rfl
theorem kv_La_124 : mx_cvb "PegBoardsLaw" 124 mY_Mo_symmetries = true := by
  simp only [mx_cvb, Bool.and_eq_true, decide_eq_true_eq]
  exact ⟨⟨wl_La_124, wm_Mo_symmetries⟩, wv_Mo_symmetries⟩
theorem wc_Mo_image : Cond.code ⟨"PegBoardsModel", "image", "(II)I"⟩ prog_9_method_36_code 3 (some .int) ∈ mx_WS := mx_in 1000 (by decide +kernel) rfl
theorem kd_Mo_image : mx_cdb mY_Mo_image 2 = true := by
  simp only [mx_cdb, Bool.and_eq_true, decide_eq_true_eq]
  exact ⟨⟨⟨⟨⟨wi_Mo, wc_Mo_image⟩, by decide +kernel⟩, by decide +kernel⟩, by decide +kernel⟩, by decide +kernel⟩
theorem wl_La_127 : Cond.methodLink "PegBoardsLaw" 127 ⟨"PegBoardsModel", "image", "(II)I"⟩ ∈ mx_WS := mx_in 997 (by decide +kernel) rfl
theorem wm_Mo_image : Cond.instanceMethod ⟨"PegBoardsModel", "image", "(II)I"⟩ ∈ mx_WS := mx_in 998 (by decide +kernel) rfl
theorem wv_Mo_image : Cond.selects "PegBoardsModel" ⟨"PegBoardsModel", "image", "(II)I"⟩ ⟨"PegBoardsModel", "image", "(II)I"⟩ ∈ mx_WS := mx_in 999 (by decide +kernel) rfl
theorem kv_La_127 : mx_cvb "PegBoardsLaw" 127 mY_Mo_image = true := by
  simp only [mx_cvb, Bool.and_eq_true, decide_eq_true_eq]
  exact ⟨⟨wl_La_127, wm_Mo_image⟩, wv_Mo_image⟩
theorem wc_Mo_noHole : Cond.code ⟨"PegBoardsModel", "noHole", "(I)Z"⟩ prog_9_method_35_code 2 (some .boolean) ∈ mx_WS := mx_in 1004 (by decide +kernel) rfl
theorem kd_Mo_noHole : mx_cdb mY_Mo_noHole 1 = true := by
  simp only [mx_cdb, Bool.and_eq_true, decide_eq_true_eq]
  exact ⟨⟨⟨⟨⟨wi_Mo, wc_Mo_noHole⟩, by decide +kernel⟩, by decide +kernel⟩, by decide +kernel⟩, by decide +kernel⟩
theorem wl_Mo_161 : Cond.methodLink "PegBoardsModel" 161 ⟨"PegBoardsModel", "noHole", "(I)Z"⟩ ∈ mx_WS := mx_in 1001 (by decide +kernel) rfl
theorem wm_Mo_noHole : Cond.instanceMethod ⟨"PegBoardsModel", "noHole", "(I)Z"⟩ ∈ mx_WS := mx_in 1003 (by decide +kernel) rfl
theorem wv_Mo_noHole : Cond.selects "PegBoardsModel" ⟨"PegBoardsModel", "noHole", "(I)Z"⟩ ⟨"PegBoardsModel", "noHole", "(I)Z"⟩ ∈ mx_WS := mx_in 36 (by decide +kernel) rfl
theorem kv_Mo_161 : mx_cvb "PegBoardsModel" 161 mY_Mo_noHole = true := by
  simp only [mx_cvb, Bool.and_eq_true, decide_eq_true_eq]
  exact ⟨⟨wl_Mo_161, wm_Mo_noHole⟩, wv_Mo_noHole⟩
theorem wc_Mo_least : Cond.code ⟨"PegBoardsModel", "least", "(I)I"⟩ prog_9_method_37_code 2 (some .int) ∈ mx_WS := mx_in 1008 (by decide +kernel) rfl
theorem kd_Mo_least : mx_cdb mY_Mo_least 1 = true := by
  simp only [mx_cdb, Bool.and_eq_true, decide_eq_true_eq]
  exact ⟨⟨⟨⟨⟨wi_Mo, wc_Mo_least⟩, by decide +kernel⟩, by decide +kernel⟩, by decide +kernel⟩, by decide +kernel⟩
theorem wl_La_130 : Cond.methodLink "PegBoardsLaw" 130 ⟨"PegBoardsModel", "least", "(I)I"⟩ ∈ mx_WS := mx_in 1005 (by decide +kernel) rfl
theorem wm_Mo_least : Cond.instanceMethod ⟨"PegBoardsModel", "least", "(I)I"⟩ ∈ mx_WS := mx_in 1006 (by decide +kernel) rfl
theorem wv_Mo_least : Cond.selects "PegBoardsModel" ⟨"PegBoardsModel", "least", "(I)I"⟩ ⟨"PegBoardsModel", "least", "(I)I"⟩ ∈ mx_WS := mx_in 1007 (by decide +kernel) rfl
theorem kv_La_130 : mx_cvb "PegBoardsLaw" 130 mY_Mo_least = true := by
  simp only [mx_cvb, Bool.and_eq_true, decide_eq_true_eq]
  exact ⟨⟨wl_La_130, wm_Mo_least⟩, wv_Mo_least⟩
theorem wc_Mo_parity : Cond.code ⟨"PegBoardsModel", "parity", "(I)I"⟩ prog_9_method_38_code 9 (some .int) ∈ mx_WS := mx_in 1012 (by decide +kernel) rfl
theorem kd_Mo_parity : mx_cdb mY_Mo_parity 1 = true := by
  simp only [mx_cdb, Bool.and_eq_true, decide_eq_true_eq]
  exact ⟨⟨⟨⟨⟨wi_Mo, wc_Mo_parity⟩, by decide +kernel⟩, by decide +kernel⟩, by decide +kernel⟩, by decide +kernel⟩
theorem wl_La_133 : Cond.methodLink "PegBoardsLaw" 133 ⟨"PegBoardsModel", "parity", "(I)I"⟩ ∈ mx_WS := mx_in 1009 (by decide +kernel) rfl
theorem wm_Mo_parity : Cond.instanceMethod ⟨"PegBoardsModel", "parity", "(I)I"⟩ ∈ mx_WS := mx_in 1010 (by decide +kernel) rfl
theorem wv_Mo_parity : Cond.selects "PegBoardsModel" ⟨"PegBoardsModel", "parity", "(I)I"⟩ ⟨"PegBoardsModel", "parity", "(I)I"⟩ ∈ mx_WS := mx_in 1011 (by decide +kernel) rfl
theorem kv_La_133 : mx_cvb "PegBoardsLaw" 133 mY_Mo_parity = true := by
  simp only [mx_cvb, Bool.and_eq_true, decide_eq_true_eq]
  exact ⟨⟨wl_La_133, wm_Mo_parity⟩, wv_Mo_parity⟩
theorem wc_Mo_weight : Cond.code ⟨"PegBoardsModel", "weight", "(II)V"⟩ prog_9_method_39_code 3 none ∈ mx_WS := mx_in 1016 (by decide +kernel) rfl
theorem kd_Mo_weight : mx_cdb mY_Mo_weight 2 = true := by
  simp only [mx_cdb, Bool.and_eq_true, decide_eq_true_eq]
  exact ⟨⟨⟨⟨⟨wi_Mo, wc_Mo_weight⟩, by decide +kernel⟩, by decide +kernel⟩, by decide +kernel⟩, by decide +kernel⟩
theorem wl_La_137 : Cond.methodLink "PegBoardsLaw" 137 ⟨"PegBoardsModel", "weight", "(II)V"⟩ ∈ mx_WS := mx_in 1013 (by decide +kernel) rfl
theorem wm_Mo_weight : Cond.instanceMethod ⟨"PegBoardsModel", "weight", "(II)V"⟩ ∈ mx_WS := mx_in 1014 (by decide +kernel) rfl
theorem wv_Mo_weight : Cond.selects "PegBoardsModel" ⟨"PegBoardsModel", "weight", "(II)V"⟩ ⟨"PegBoardsModel", "weight", "(II)V"⟩ ∈ mx_WS := mx_in 1015 (by decide +kernel) rfl
theorem kv_La_137 : mx_cvb "PegBoardsLaw" 137 mY_Mo_weight = true := by
  simp only [mx_cvb, Bool.and_eq_true, decide_eq_true_eq]
  exact ⟨⟨wl_La_137, wm_Mo_weight⟩, wv_Mo_weight⟩
theorem wc_Mo_weights : Cond.code ⟨"PegBoardsModel", "weights", "(I)I"⟩ prog_9_method_42_code 2 (some .int) ∈ mx_WS := mx_in 1020 (by decide +kernel) rfl
theorem kd_Mo_weights : mx_cdb mY_Mo_weights 1 = true := by
  simp only [mx_cdb, Bool.and_eq_true, decide_eq_true_eq]
  exact ⟨⟨⟨⟨⟨wi_Mo, wc_Mo_weights⟩, by decide +kernel⟩, by decide +kernel⟩, by decide +kernel⟩, by decide +kernel⟩
theorem wl_La_140 : Cond.methodLink "PegBoardsLaw" 140 ⟨"PegBoardsModel", "weights", "(I)I"⟩ ∈ mx_WS := mx_in 1017 (by decide +kernel) rfl
theorem wm_Mo_weights : Cond.instanceMethod ⟨"PegBoardsModel", "weights", "(I)I"⟩ ∈ mx_WS := mx_in 1018 (by decide +kernel) rfl
theorem wv_Mo_weights : Cond.selects "PegBoardsModel" ⟨"PegBoardsModel", "weights", "(I)I"⟩ ⟨"PegBoardsModel", "weights", "(I)I"⟩ ∈ mx_WS := mx_in 1019 (by decide +kernel) rfl
theorem kv_La_140 : mx_cvb "PegBoardsLaw" 140 mY_Mo_weights = true := by
  simp only [mx_cvb, Bool.and_eq_true, decide_eq_true_eq]
  exact ⟨⟨wl_La_140, wm_Mo_weights⟩, wv_Mo_weights⟩
theorem wc_Mo_holding : Cond.code ⟨"PegBoardsModel", "holding", "()Z"⟩ prog_9_method_41_code 3 (some .boolean) ∈ mx_WS := mx_in 1024 (by decide +kernel) rfl
theorem kd_Mo_holding : mx_cdb mY_Mo_holding 0 = true := by
  simp only [mx_cdb, Bool.and_eq_true, decide_eq_true_eq]
  exact ⟨⟨⟨⟨⟨wi_Mo, wc_Mo_holding⟩, by decide +kernel⟩, by decide +kernel⟩, by decide +kernel⟩, by decide +kernel⟩
theorem wl_Mo_164 : Cond.methodLink "PegBoardsModel" 164 ⟨"PegBoardsModel", "holding", "()Z"⟩ ∈ mx_WS := mx_in 1021 (by decide +kernel) rfl
theorem wm_Mo_holding : Cond.instanceMethod ⟨"PegBoardsModel", "holding", "()Z"⟩ ∈ mx_WS := mx_in 1023 (by decide +kernel) rfl
theorem wv_Mo_holding : Cond.selects "PegBoardsModel" ⟨"PegBoardsModel", "holding", "()Z"⟩ ⟨"PegBoardsModel", "holding", "()Z"⟩ ∈ mx_WS := mx_in 37 (by decide +kernel) rfl
theorem kv_Mo_164 : mx_cvb "PegBoardsModel" 164 mY_Mo_holding = true := by
  simp only [mx_cvb, Bool.and_eq_true, decide_eq_true_eq]
  exact ⟨⟨wl_Mo_164, wm_Mo_holding⟩, wv_Mo_holding⟩
theorem wc_Mo_sumOf : Cond.code ⟨"PegBoardsModel", "sumOf", "(I)I"⟩ prog_9_method_40_code 4 (some .int) ∈ mx_WS := mx_in 1028 (by decide +kernel) rfl
theorem kd_Mo_sumOf : mx_cdb mY_Mo_sumOf 1 = true := by
  simp only [mx_cdb, Bool.and_eq_true, decide_eq_true_eq]
  exact ⟨⟨⟨⟨⟨wi_Mo, wc_Mo_sumOf⟩, by decide +kernel⟩, by decide +kernel⟩, by decide +kernel⟩, by decide +kernel⟩
theorem wl_Mo_168 : Cond.methodLink "PegBoardsModel" 168 ⟨"PegBoardsModel", "sumOf", "(I)I"⟩ ∈ mx_WS := mx_in 1025 (by decide +kernel) rfl
theorem wm_Mo_sumOf : Cond.instanceMethod ⟨"PegBoardsModel", "sumOf", "(I)I"⟩ ∈ mx_WS := mx_in 1027 (by decide +kernel) rfl
theorem wv_Mo_sumOf : Cond.selects "PegBoardsModel" ⟨"PegBoardsModel", "sumOf", "(I)I"⟩ ⟨"PegBoardsModel", "sumOf", "(I)I"⟩ ∈ mx_WS := mx_in 38 (by decide +kernel) rfl
theorem kv_Mo_168 : mx_cvb "PegBoardsModel" 168 mY_Mo_sumOf = true := by
  simp only [mx_cvb, Bool.and_eq_true, decide_eq_true_eq]
  exact ⟨⟨wl_Mo_168, wm_Mo_sumOf⟩, wv_Mo_sumOf⟩
theorem wc_Mo_find : Cond.code ⟨"PegBoardsModel", "find", "()Z"⟩ prog_9_method_44_code 5 (some .boolean) ∈ mx_WS := mx_in 1032 (by decide +kernel) rfl
theorem kd_Mo_find : mx_cdb mY_Mo_find 0 = true := by
  simp only [mx_cdb, Bool.and_eq_true, decide_eq_true_eq]
  exact ⟨⟨⟨⟨⟨wi_Mo, wc_Mo_find⟩, by decide +kernel⟩, by decide +kernel⟩, by decide +kernel⟩, by decide +kernel⟩
theorem wl_La_143 : Cond.methodLink "PegBoardsLaw" 143 ⟨"PegBoardsModel", "find", "()Z"⟩ ∈ mx_WS := mx_in 1029 (by decide +kernel) rfl
theorem wm_Mo_find : Cond.instanceMethod ⟨"PegBoardsModel", "find", "()Z"⟩ ∈ mx_WS := mx_in 1030 (by decide +kernel) rfl
theorem wv_Mo_find : Cond.selects "PegBoardsModel" ⟨"PegBoardsModel", "find", "()Z"⟩ ⟨"PegBoardsModel", "find", "()Z"⟩ ∈ mx_WS := mx_in 1031 (by decide +kernel) rfl
theorem kv_La_143 : mx_cvb "PegBoardsLaw" 143 mY_Mo_find = true := by
  simp only [mx_cvb, Bool.and_eq_true, decide_eq_true_eq]
  exact ⟨⟨wl_La_143, wm_Mo_find⟩, wv_Mo_find⟩
theorem wc_Mo_fits : Cond.code ⟨"PegBoardsModel", "fits", "()Z"⟩ prog_9_method_43_code 4 (some .boolean) ∈ mx_WS := mx_in 1036 (by decide +kernel) rfl
theorem kd_Mo_fits : mx_cdb mY_Mo_fits 0 = true := by
  simp only [mx_cdb, Bool.and_eq_true, decide_eq_true_eq]
  exact ⟨⟨⟨⟨⟨wi_Mo, wc_Mo_fits⟩, by decide +kernel⟩, by decide +kernel⟩, by decide +kernel⟩, by decide +kernel⟩
theorem wl_Mo_171 : Cond.methodLink "PegBoardsModel" 171 ⟨"PegBoardsModel", "fits", "()Z"⟩ ∈ mx_WS := mx_in 1033 (by decide +kernel) rfl
theorem wm_Mo_fits : Cond.instanceMethod ⟨"PegBoardsModel", "fits", "()Z"⟩ ∈ mx_WS := mx_in 1035 (by decide +kernel) rfl
theorem wv_Mo_fits : Cond.selects "PegBoardsModel" ⟨"PegBoardsModel", "fits", "()Z"⟩ ⟨"PegBoardsModel", "fits", "()Z"⟩ ∈ mx_WS := mx_in 39 (by decide +kernel) rfl
theorem kv_Mo_171 : mx_cvb "PegBoardsModel" 171 mY_Mo_fits = true := by
  simp only [mx_cvb, Bool.and_eq_true, decide_eq_true_eq]
  exact ⟨⟨wl_Mo_171, wm_Mo_fits⟩, wv_Mo_fits⟩
