/-! Printed by wip/whole/gen.py: what the call sites ask of the words. -/
theorem kd_Ar_fill : mx_cdb mY_Ar_fill 2 = true := by decide +kernel
theorem ks_Bo_21 : mx_csb "PegBoards$Board" 21 mY_Ar_fill = true := by decide +kernel
theorem kd_Pe_clear : mx_cdb mY_Pe_clear 1 = true := by decide +kernel
theorem kv_La_73 : mx_cvb "PegBoardsLaw" 73 mY_Pe_clear = true := by decide +kernel
theorem kd_Bo_wipe : mx_cdb mY_Bo_wipe 1 = true := by decide +kernel
theorem kv_Pe_44 : mx_cvb "PegBoards" 44 mY_Bo_wipe = true := by decide +kernel
theorem kd_Ju_forget : mx_cdb mY_Ju_forget 0 = true := by decide +kernel
theorem kv_Pe_48 : mx_cvb "PegBoards" 48 mY_Ju_forget = true := by decide +kernel
theorem kd_Sy_forget : mx_cdb mY_Sy_forget 0 = true := by decide +kernel
theorem kv_Pe_51 : mx_cvb "PegBoards" 51 mY_Sy_forget = true := by decide +kernel
theorem kd_We_forget : mx_cdb mY_We_forget 0 = true := by decide +kernel
theorem kv_Pe_52 : mx_cvb "PegBoards" 52 mY_We_forget = true := by decide +kernel
theorem ks_We_18 : mx_csb "PegBoards$Weights" 18 mY_Ar_fill = true := by decide +kernel
theorem kd_Pe_at : mx_cdb mY_Pe_at 2 = true := by decide +kernel
theorem kv_La_91 : mx_cvb "PegBoardsLaw" 91 mY_Pe_at = true := by decide +kernel
theorem kd_Bo_numberAt : mx_cdb mY_Bo_numberAt 2 = true := by decide +kernel
theorem kv_Pe_101 : mx_cvb "PegBoards" 101 mY_Bo_numberAt = true := by decide +kernel
theorem kd_Pe_isPlace : mx_cdb mY_Pe_isPlace 2 = true := by decide +kernel
theorem kn_Bo_42 : mx_cnb "PegBoards$Board" 42 mY_Pe_isPlace = true := by decide +kernel
theorem kd_Pe_symmetries : mx_cdb mY_Pe_symmetries 0 = true := by decide +kernel
theorem kv_La_121 : mx_cvb "PegBoardsLaw" 121 mY_Pe_symmetries = true := by decide +kernel
theorem kd_Sy_size : mx_cdb mY_Sy_size 0 = true := by decide +kernel
theorem kv_Pe_151 : mx_cvb "PegBoards" 151 mY_Sy_size = true := by decide +kernel
theorem kd_Pe_hole : mx_cdb mY_Pe_hole 2 = true := by decide +kernel
theorem kv_La_7 : mx_cvb "PegBoardsLaw" 7 mY_Pe_hole = true := by decide +kernel
theorem ks_Pe_60 : mx_csb "PegBoards" 60 mY_Pe_isPlace = true := by decide +kernel
theorem kd_Bo_canDraw : mx_cdb mY_Bo_canDraw 2 = true := by decide +kernel
theorem kv_Pe_71 : mx_cvb "PegBoards" 71 mY_Bo_canDraw = true := by decide +kernel
theorem kd_Bo_draw : mx_cdb mY_Bo_draw 2 = true := by decide +kernel
theorem kv_Pe_79 : mx_cvb "PegBoards" 79 mY_Bo_draw = true := by decide +kernel
theorem kd_Pe_freeze : mx_cdb mY_Pe_freeze 0 = true := by decide +kernel
theorem kv_La_17 : mx_cvb "PegBoardsLaw" 17 mY_Pe_freeze = true := by decide +kernel
theorem kd_Bo_canBeNumbered : mx_cdb mY_Bo_canBeNumbered 0 = true := by decide +kernel
theorem kv_Pe_83 : mx_cvb "PegBoards" 83 mY_Bo_canBeNumbered = true := by decide +kernel
theorem kd_Bo_numberHoles : mx_cdb mY_Bo_numberHoles 0 = true := by decide +kernel
theorem kv_Pe_89 : mx_cvb "PegBoards" 89 mY_Bo_numberHoles = true := by decide +kernel
theorem kd_Ju_list : mx_cdb mY_Ju_list 1 = true := by decide +kernel
theorem kv_Pe_92 : mx_cvb "PegBoards" 92 mY_Ju_list = true := by decide +kernel
theorem kd_Bo_isTriangular : mx_cdb mY_Bo_isTriangular 0 = true := by decide +kernel
theorem kv_Ju_31 : mx_cvb "PegBoards$Jumps" 31 mY_Bo_isTriangular = true := by decide +kernel
theorem kd_Bo_holes : mx_cdb mY_Bo_holes 0 = true := by decide +kernel
theorem kv_Ju_49 : mx_cvb "PegBoards$Jumps" 49 mY_Bo_holes = true := by decide +kernel
theorem kd_Ju_listOne : mx_cdb mY_Ju_listOne 4 = true := by decide +kernel
theorem kv_Ju_53 : mx_cvb "PegBoards$Jumps" 53 mY_Ju_listOne = true := by decide +kernel
theorem kd_Bo_rowOf : mx_cdb mY_Bo_rowOf 1 = true := by decide +kernel
theorem kv_Ju_57 : mx_cvb "PegBoards$Jumps" 57 mY_Bo_rowOf = true := by decide +kernel
theorem kd_Bo_columnOf : mx_cdb mY_Bo_columnOf 1 = true := by decide +kernel
theorem kv_Ju_61 : mx_cvb "PegBoards$Jumps" 61 mY_Bo_columnOf = true := by decide +kernel
theorem kv_Ju_64 : mx_cvb "PegBoards$Jumps" 64 mY_Bo_numberAt = true := by decide +kernel
theorem kd_Sy_list : mx_cdb mY_Sy_list 1 = true := by decide +kernel
theorem kv_Pe_96 : mx_cvb "PegBoards" 96 mY_Sy_list = true := by decide +kernel
theorem kv_Sy_27 : mx_cvb "PegBoards$Symmetries" 27 mY_Bo_isTriangular = true := by decide +kernel
theorem kv_Sy_33 : mx_cvb "PegBoards$Symmetries" 33 mY_Bo_holes = true := by decide +kernel
theorem kd_Sy_turn : mx_cdb mY_Sy_turn 3 = true := by decide +kernel
theorem kv_Sy_39 : mx_cvb "PegBoards$Symmetries" 39 mY_Sy_turn = true := by decide +kernel
theorem kv_Sy_65 : mx_cvb "PegBoards$Symmetries" 65 mY_Bo_rowOf = true := by decide +kernel
theorem kv_Sy_69 : mx_cvb "PegBoards$Symmetries" 69 mY_Bo_columnOf = true := by decide +kernel
theorem kd_Sy_mirror : mx_cdb mY_Sy_mirror 1 = true := by decide +kernel
theorem kv_Sy_43 : mx_cvb "PegBoards$Symmetries" 43 mY_Sy_mirror = true := by decide +kernel
theorem kd_Bo_leastRow : mx_cdb mY_Bo_leastRow 0 = true := by decide +kernel
theorem kv_Sy_47 : mx_cvb "PegBoards$Symmetries" 47 mY_Bo_leastRow = true := by decide +kernel
theorem kv_Bo_38 : mx_cvb "PegBoards$Board" 38 mY_Bo_holes = true := by decide +kernel
theorem kd_Pe_leastIn : mx_cdb mY_Pe_leastIn 2 = true := by decide +kernel
theorem kn_Bo_46 : mx_cnb "PegBoards$Board" 46 mY_Pe_leastIn = true := by decide +kernel
theorem kd_Ma_min : mx_cdb mY_Ma_min 2 = true := by decide +kernel
theorem ks_Pe_219 : mx_csb "PegBoards" 219 mY_Ma_min = true := by decide +kernel
theorem kn_Sy_50 : mx_cnb "PegBoards$Symmetries" 50 mY_Pe_leastIn = true := by decide +kernel
theorem kd_Sy_moveBy : mx_cdb mY_Sy_moveBy 2 = true := by decide +kernel
theorem kv_Sy_54 : mx_cvb "PegBoards$Symmetries" 54 mY_Sy_moveBy = true := by decide +kernel
theorem kd_Bo_leastColumn : mx_cdb mY_Bo_leastColumn 0 = true := by decide +kernel
theorem kv_Sy_58 : mx_cvb "PegBoards$Symmetries" 58 mY_Bo_leastColumn = true := by decide +kernel
theorem kd_Sy_addIfSameHoles : mx_cdb mY_Sy_addIfSameHoles 1 = true := by decide +kernel
theorem kv_Sy_61 : mx_cvb "PegBoards$Symmetries" 61 mY_Sy_addIfSameHoles = true := by decide +kernel
theorem kv_Sy_72 : mx_cvb "PegBoards$Symmetries" 72 mY_Bo_numberAt = true := by decide +kernel
theorem kd_Ju_size : mx_cdb mY_Ju_size 0 = true := by decide +kernel
theorem kv_Pe_97 : mx_cvb "PegBoards" 97 mY_Ju_size = true := by decide +kernel
theorem kd_Pe_jump : mx_cdb mY_Pe_jump 2 = true := by decide +kernel
theorem kv_La_21 : mx_cvb "PegBoardsLaw" 21 mY_Pe_jump = true := by decide +kernel
theorem kd_Pe_requireJump : mx_cdb mY_Pe_requireJump 1 = true := by decide +kernel
theorem kv_Pe_104 : mx_cvb "PegBoards" 104 mY_Pe_requireJump = true := by decide +kernel
theorem kd_Ju_from : mx_cdb mY_Ju_from 1 = true := by decide +kernel
theorem kv_Pe_108 : mx_cvb "PegBoards" 108 mY_Ju_from = true := by decide +kernel
theorem kd_Ju_over : mx_cdb mY_Ju_over 1 = true := by decide +kernel
theorem kv_Pe_112 : mx_cvb "PegBoards" 112 mY_Ju_over = true := by decide +kernel
theorem kd_Ju_to : mx_cdb mY_Ju_to 1 = true := by decide +kernel
theorem kv_Pe_115 : mx_cvb "PegBoards" 115 mY_Ju_to = true := by decide +kernel
theorem kd_Pe_place : mx_cdb mY_Pe_place 2 = true := by decide +kernel
theorem kv_La_26 : mx_cvb "PegBoardsLaw" 26 mY_Pe_place = true := by decide +kernel
theorem kd_Pe_requirePosition : mx_cdb mY_Pe_requirePosition 1 = true := by decide +kernel
theorem kv_Pe_123 : mx_cvb "PegBoards" 123 mY_Pe_requirePosition = true := by decide +kernel
theorem kd_Bo_allHoles : mx_cdb mY_Bo_allHoles 0 = true := by decide +kernel
theorem kv_Pe_210 : mx_cvb "PegBoards" 210 mY_Bo_allHoles = true := by decide +kernel
theorem kd_Pe_after : mx_cdb mY_Pe_after 2 = true := by decide +kernel
theorem kv_La_30 : mx_cvb "PegBoardsLaw" 30 mY_Pe_after = true := by decide +kernel
theorem kd_Ju_make : mx_cdb mY_Ju_make 2 = true := by decide +kernel
theorem kv_Pe_126 : mx_cvb "PegBoards" 126 mY_Ju_make = true := by decide +kernel
theorem kd_Pe_count : mx_cdb mY_Pe_count 1 = true := by decide +kernel
theorem kv_La_33 : mx_cvb "PegBoardsLaw" 33 mY_Pe_count = true := by decide +kernel
theorem kd_Pe_reachWithin : mx_cdb mY_Pe_reachWithin 1 = true := by decide +kernel
theorem kv_Pe_129 : mx_cvb "PegBoards" 129 mY_Pe_reachWithin = true := by decide +kernel
theorem kd_Pe_requireFrozen : mx_cdb mY_Pe_requireFrozen 0 = true := by decide +kernel
theorem kv_Pe_160 : mx_cvb "PegBoards" 160 mY_Pe_requireFrozen = true := by decide +kernel
theorem kd_Bo_isFrozen : mx_cdb mY_Bo_isFrozen 0 = true := by decide +kernel
theorem kv_Pe_205 : mx_cvb "PegBoards" 205 mY_Bo_isFrozen = true := by decide +kernel
theorem kd_Re_run : mx_cdb mY_Re_run 3 = true := by decide +kernel
theorem kv_Pe_201 : mx_cvb "PegBoards" 201 mY_Re_run = true := by decide +kernel
theorem kd_Fo_forget : mx_cdb mY_Fo_forget 0 = true := by decide +kernel
theorem kv_Re_34 : mx_cvb "PegBoards$Reaching" 34 mY_Fo_forget = true := by decide +kernel
theorem ks_Fo_18 : mx_csb "PegBoards$Found" 18 mY_Ar_fill = true := by decide +kernel
theorem kd_Fo_numberWithin : mx_cdb mY_Fo_numberWithin 2 = true := by decide +kernel
theorem kv_Re_41 : mx_cvb "PegBoards$Reaching" 41 mY_Fo_numberWithin = true := by decide +kernel
theorem kd_Fo_slotFor : mx_cdb mY_Fo_slotFor 1 = true := by decide +kernel
theorem kv_Fo_28 : mx_cvb "PegBoards$Found" 28 mY_Fo_slotFor = true := by decide +kernel
theorem kd_Fo_isFreeOrHas : mx_cdb mY_Fo_isFreeOrHas 2 = true := by decide +kernel
theorem kv_Fo_32 : mx_cvb "PegBoards$Found" 32 mY_Fo_isFreeOrHas = true := by decide +kernel
theorem kd_Fo_size : mx_cdb mY_Fo_size 0 = true := by decide +kernel
theorem kv_Re_45 : mx_cvb "PegBoards$Reaching" 45 mY_Fo_size = true := by decide +kernel
theorem kd_Re_goOnFrom : mx_cdb mY_Re_goOnFrom 3 = true := by decide +kernel
theorem kv_Re_49 : mx_cvb "PegBoards$Reaching" 49 mY_Re_goOnFrom = true := by decide +kernel
theorem kd_Fo_positionOf : mx_cdb mY_Fo_positionOf 1 = true := by decide +kernel
theorem kv_Re_53 : mx_cvb "PegBoards$Reaching" 53 mY_Fo_positionOf = true := by decide +kernel
theorem kv_Re_57 : mx_cvb "PegBoards$Reaching" 57 mY_Ju_size = true := by decide +kernel
theorem kv_Re_60 : mx_cvb "PegBoards$Reaching" 60 mY_Ju_make = true := by decide +kernel
theorem kd_Re_enter : mx_cdb mY_Re_enter 3 = true := by decide +kernel
theorem kv_Re_63 : mx_cvb "PegBoards$Reaching" 63 mY_Re_enter = true := by decide +kernel
theorem kv_Re_67 : mx_cvb "PegBoards$Reaching" 67 mY_Ju_from = true := by decide +kernel
theorem kv_Re_70 : mx_cvb "PegBoards$Reaching" 70 mY_Ju_to = true := by decide +kernel
theorem kd_Re_addMoves : mx_cdb mY_Re_addMoves 4 = true := by decide +kernel
theorem kv_Re_73 : mx_cvb "PegBoards$Reaching" 73 mY_Re_addMoves = true := by decide +kernel
theorem kd_Pe_contains : mx_cdb mY_Pe_contains 2 = true := by decide +kernel
theorem kn_Re_77 : mx_cnb "PegBoards$Reaching" 77 mY_Pe_contains = true := by decide +kernel
theorem kd_Re_limitMet : mx_cdb mY_Re_limitMet 0 = true := by decide +kernel
theorem kv_Pe_132 : mx_cvb "PegBoards" 132 mY_Re_limitMet = true := by decide +kernel
theorem kd_Re_size : mx_cdb mY_Re_size 0 = true := by decide +kernel
theorem kv_Pe_135 : mx_cvb "PegBoards" 135 mY_Re_size = true := by decide +kernel
theorem kd_Pe_solve : mx_cdb mY_Pe_solve 1 = true := by decide +kernel
theorem kv_La_37 : mx_cvb "PegBoardsLaw" 37 mY_Pe_solve = true := by decide +kernel
theorem kd_Re_has : mx_cdb mY_Re_has 1 = true := by decide +kernel
theorem kv_Pe_136 : mx_cvb "PegBoards" 136 mY_Re_has = true := by decide +kernel
theorem kd_Fo_numberOf : mx_cdb mY_Fo_numberOf 1 = true := by decide +kernel
theorem kv_Re_81 : mx_cvb "PegBoards$Reaching" 81 mY_Fo_numberOf = true := by decide +kernel
theorem kd_Pe_way : mx_cdb mY_Pe_way 2 = true := by decide +kernel
theorem kv_La_40 : mx_cvb "PegBoardsLaw" 40 mY_Pe_way = true := by decide +kernel
theorem kd_Re_jumpOnWay : mx_cdb mY_Re_jumpOnWay 3 = true := by decide +kernel
theorem kv_Pe_140 : mx_cvb "PegBoards" 140 mY_Re_jumpOnWay = true := by decide +kernel
theorem kd_In_bitCount : mx_cdb mY_In_bitCount 1 = true := by decide +kernel
theorem ks_Re_84 : mx_csb "PegBoards$Reaching" 84 mY_In_bitCount = true := by decide +kernel
theorem kd_Pe_moves : mx_cdb mY_Pe_moves 1 = true := by decide +kernel
theorem kv_La_43 : mx_cvb "PegBoardsLaw" 43 mY_Pe_moves = true := by decide +kernel
theorem kd_Re_fewestMoves : mx_cdb mY_Re_fewestMoves 1 = true := by decide +kernel
theorem kv_Pe_144 : mx_cvb "PegBoards" 144 mY_Re_fewestMoves = true := by decide +kernel
theorem kd_Pe_classes : mx_cdb mY_Pe_classes 1 = true := by decide +kernel
theorem kv_La_46 : mx_cvb "PegBoardsLaw" 46 mY_Pe_classes = true := by decide +kernel
theorem kd_Re_differentLeasts : mx_cdb mY_Re_differentLeasts 1 = true := by decide +kernel
theorem kv_Pe_147 : mx_cvb "PegBoards" 147 mY_Re_differentLeasts = true := by decide +kernel
theorem kd_Sy_leastOf : mx_cdb mY_Sy_leastOf 1 = true := by decide +kernel
theorem kv_Re_89 : mx_cvb "PegBoards$Reaching" 89 mY_Sy_leastOf = true := by decide +kernel
theorem kd_Sy_imageOf : mx_cdb mY_Sy_imageOf 2 = true := by decide +kernel
theorem kv_Sy_76 : mx_cvb "PegBoards$Symmetries" 76 mY_Sy_imageOf = true := by decide +kernel
theorem kn_Sy_84 : mx_cnb "PegBoards$Symmetries" 84 mY_Pe_contains = true := by decide +kernel
theorem ks_Sy_79 : mx_csb "PegBoards$Symmetries" 79 mY_Ma_min = true := by decide +kernel
theorem kd_Pe_image : mx_cdb mY_Pe_image 2 = true := by decide +kernel
theorem kv_La_49 : mx_cvb "PegBoardsLaw" 49 mY_Pe_image = true := by decide +kernel
theorem kd_Pe_requireHole : mx_cdb mY_Pe_requireHole 1 = true := by decide +kernel
theorem kv_Pe_154 : mx_cvb "PegBoards" 154 mY_Pe_requireHole = true := by decide +kernel
theorem kv_Pe_190 : mx_cvb "PegBoards" 190 mY_Bo_holes = true := by decide +kernel
theorem kd_Sy_holeOf : mx_cdb mY_Sy_holeOf 2 = true := by decide +kernel
theorem kv_Pe_157 : mx_cvb "PegBoards" 157 mY_Sy_holeOf = true := by decide +kernel
theorem kd_Pe_least : mx_cdb mY_Pe_least 1 = true := by decide +kernel
theorem kv_La_52 : mx_cvb "PegBoardsLaw" 52 mY_Pe_least = true := by decide +kernel
theorem kv_Pe_163 : mx_cvb "PegBoards" 163 mY_Sy_leastOf = true := by decide +kernel
theorem kd_Pe_parity : mx_cdb mY_Pe_parity 1 = true := by decide +kernel
theorem kv_La_55 : mx_cvb "PegBoardsLaw" 55 mY_Pe_parity = true := by decide +kernel
theorem kv_Pe_166 : mx_cvb "PegBoards" 166 mY_Bo_isTriangular = true := by decide +kernel
theorem kd_Bo_classOf : mx_cdb mY_Bo_classOf 1 = true := by decide +kernel
theorem kv_Pe_169 : mx_cvb "PegBoards" 169 mY_Bo_classOf = true := by decide +kernel
theorem kn_Bo_50 : mx_cnb "PegBoards$Board" 50 mY_Pe_contains = true := by decide +kernel
theorem kd_Bo_colours : mx_cdb mY_Bo_colours 1 = true := by decide +kernel
theorem ks_Bo_53 : mx_csb "PegBoards$Board" 53 mY_Bo_colours = true := by decide +kernel
theorem kd_Pe_weight : mx_cdb mY_Pe_weight 2 = true := by decide +kernel
theorem kv_La_58 : mx_cvb "PegBoardsLaw" 58 mY_Pe_weight = true := by decide +kernel
theorem kd_We_put : mx_cdb mY_We_put 2 = true := by decide +kernel
theorem kv_Pe_174 : mx_cvb "PegBoards" 174 mY_We_put = true := by decide +kernel
theorem kd_Pe_weights : mx_cdb mY_Pe_weights 1 = true := by decide +kernel
theorem kv_La_62 : mx_cvb "PegBoardsLaw" 62 mY_Pe_weights = true := by decide +kernel
theorem kd_We_hold : mx_cdb mY_We_hold 1 = true := by decide +kernel
theorem kv_Pe_178 : mx_cvb "PegBoards" 178 mY_We_hold = true := by decide +kernel
theorem kv_We_28 : mx_cvb "PegBoards$Weights" 28 mY_Ju_size = true := by decide +kernel
theorem kv_We_34 : mx_cvb "PegBoards$Weights" 34 mY_Ju_to = true := by decide +kernel
theorem kv_We_38 : mx_cvb "PegBoards$Weights" 38 mY_Ju_from = true := by decide +kernel
theorem kv_We_41 : mx_cvb "PegBoards$Weights" 41 mY_Ju_over = true := by decide +kernel
theorem kd_We_sumOf : mx_cdb mY_We_sumOf 1 = true := by decide +kernel
theorem kv_Pe_182 : mx_cvb "PegBoards" 182 mY_We_sumOf = true := by decide +kernel
theorem kn_We_24 : mx_cnb "PegBoards$Weights" 24 mY_Pe_contains = true := by decide +kernel
theorem kd_We_of : mx_cdb mY_We_of 1 = true := by decide +kernel
theorem kv_Pe_187 : mx_cvb "PegBoards" 187 mY_We_of = true := by decide +kernel
theorem kd_Pe_find : mx_cdb mY_Pe_find 0 = true := by decide +kernel
theorem kv_La_65 : mx_cvb "PegBoardsLaw" 65 mY_Pe_find = true := by decide +kernel
theorem kd_We_search : mx_cdb mY_We_search 4 = true := by decide +kernel
theorem kv_Pe_195 : mx_cvb "PegBoards" 195 mY_We_search = true := by decide +kernel
theorem kd_We_tryFrom : mx_cdb mY_We_tryFrom 6 = true := by decide +kernel
theorem kv_We_44 : mx_cvb "PegBoards$Weights" 44 mY_We_tryFrom = true := by decide +kernel
theorem ks_We_54 : mx_csb "PegBoards$Weights" 54 mY_In_bitCount = true := by decide +kernel
theorem kd_We_triedHold : mx_cdb mY_We_triedHold 2 = true := by decide +kernel
theorem kv_We_59 : mx_cvb "PegBoards$Weights" 59 mY_We_triedHold = true := by decide +kernel
theorem kd_Ma_max : mx_cdb mY_Ma_max 2 = true := by decide +kernel
theorem ks_We_63 : mx_csb "PegBoards$Weights" 63 mY_Ma_max = true := by decide +kernel
theorem kd_Mo_thrown : mx_cdb mY_Mo_thrown 0 = true := by decide +kernel
theorem kv_La_84 : mx_cvb "PegBoardsLaw" 84 mY_Mo_thrown = true := by decide +kernel
theorem kd_Mo_clear : mx_cdb mY_Mo_clear 1 = true := by decide +kernel
theorem kv_La_77 : mx_cvb "PegBoardsLaw" 77 mY_Mo_clear = true := by decide +kernel
theorem kd_Mo_hole : mx_cdb mY_Mo_hole 2 = true := by decide +kernel
theorem kv_La_83 : mx_cvb "PegBoardsLaw" 83 mY_Mo_hole = true := by decide +kernel
theorem kd_Mo_off : mx_cdb mY_Mo_off 2 = true := by decide +kernel
theorem ks_Mo_91 : mx_csb "PegBoardsModel" 91 mY_Mo_off = true := by decide +kernel
theorem kd_Mo_freeze : mx_cdb mY_Mo_freeze 0 = true := by decide +kernel
theorem kv_La_90 : mx_cvb "PegBoardsLaw" 90 mY_Mo_freeze = true := by decide +kernel
theorem kd_Mo_turns : mx_cdb mY_Mo_turns 0 = true := by decide +kernel
theorem kv_Mo_95 : mx_cvb "PegBoardsModel" 95 mY_Mo_turns = true := by decide +kernel
theorem kd_Mo_down : mx_cdb mY_Mo_down 1 = true := by decide +kernel
theorem kv_Mo_103 : mx_cvb "PegBoardsModel" 103 mY_Mo_down = true := by decide +kernel
theorem kd_Mo_right : mx_cdb mY_Mo_right 1 = true := by decide +kernel
theorem kv_Mo_107 : mx_cvb "PegBoardsModel" 107 mY_Mo_right = true := by decide +kernel
theorem kd_Mo_numberAt : mx_cdb mY_Mo_numberAt 2 = true := by decide +kernel
theorem kv_Mo_99 : mx_cvb "PegBoardsModel" 99 mY_Mo_numberAt = true := by decide +kernel
theorem kd_Mo_isSymmetry : mx_cdb mY_Mo_isSymmetry 1 = true := by decide +kernel
theorem kv_Mo_110 : mx_cvb "PegBoardsModel" 110 mY_Mo_isSymmetry = true := by decide +kernel
theorem kd_Mo_at : mx_cdb mY_Mo_at 2 = true := by decide +kernel
theorem kv_La_94 : mx_cvb "PegBoardsLaw" 94 mY_Mo_at = true := by decide +kernel
theorem kd_Mo_jump : mx_cdb mY_Mo_jump 2 = true := by decide +kernel
theorem kv_La_97 : mx_cvb "PegBoardsLaw" 97 mY_Mo_jump = true := by decide +kernel
theorem kd_Mo_noJump : mx_cdb mY_Mo_noJump 1 = true := by decide +kernel
theorem kv_Mo_114 : mx_cvb "PegBoardsModel" 114 mY_Mo_noJump = true := by decide +kernel
theorem kd_Mo_place : mx_cdb mY_Mo_place 2 = true := by decide +kernel
theorem kv_La_101 : mx_cvb "PegBoardsLaw" 101 mY_Mo_place = true := by decide +kernel
theorem kd_Mo_noPosition : mx_cdb mY_Mo_noPosition 1 = true := by decide +kernel
theorem kv_Mo_117 : mx_cvb "PegBoardsModel" 117 mY_Mo_noPosition = true := by decide +kernel
theorem kd_Mo_after : mx_cdb mY_Mo_after 2 = true := by decide +kernel
theorem kv_La_104 : mx_cvb "PegBoardsLaw" 104 mY_Mo_after = true := by decide +kernel
theorem kd_Mo_made : mx_cdb mY_Mo_made 2 = true := by decide +kernel
theorem kv_Mo_123 : mx_cvb "PegBoardsModel" 123 mY_Mo_made = true := by decide +kernel
theorem kd_Mo_bit : mx_cdb mY_Mo_bit 2 = true := by decide +kernel
theorem ks_Mo_120 : mx_csb "PegBoardsModel" 120 mY_Mo_bit = true := by decide +kernel
theorem kd_Mo_count : mx_cdb mY_Mo_count 1 = true := by decide +kernel
theorem kv_La_108 : mx_cvb "PegBoardsLaw" 108 mY_Mo_count = true := by decide +kernel
theorem kd_Mo_cannot : mx_cdb mY_Mo_cannot 1 = true := by decide +kernel
theorem kv_Mo_139 : mx_cvb "PegBoardsModel" 139 mY_Mo_cannot = true := by decide +kernel
theorem kd_Mo_reach : mx_cdb mY_Mo_reach 1 = true := by decide +kernel
theorem kv_Mo_142 : mx_cvb "PegBoardsModel" 142 mY_Mo_reach = true := by decide +kernel
theorem kd_Mo_enter : mx_cdb mY_Mo_enter 3 = true := by decide +kernel
theorem kv_Mo_132 : mx_cvb "PegBoardsModel" 132 mY_Mo_enter = true := by decide +kernel
theorem kd_Mo_lookAt : mx_cdb mY_Mo_lookAt 1 = true := by decide +kernel
theorem kv_Mo_126 : mx_cvb "PegBoardsModel" 126 mY_Mo_lookAt = true := by decide +kernel
theorem kd_Mo_numberOf : mx_cdb mY_Mo_numberOf 1 = true := by decide +kernel
theorem kv_Mo_136 : mx_cvb "PegBoardsModel" 136 mY_Mo_numberOf = true := by decide +kernel
theorem kd_Mo_solve : mx_cdb mY_Mo_solve 1 = true := by decide +kernel
theorem kv_La_111 : mx_cvb "PegBoardsLaw" 111 mY_Mo_solve = true := by decide +kernel
theorem kd_Mo_way : mx_cdb mY_Mo_way 2 = true := by decide +kernel
theorem kv_La_114 : mx_cvb "PegBoardsLaw" 114 mY_Mo_way = true := by decide +kernel
theorem kd_Mo_moves : mx_cdb mY_Mo_moves 1 = true := by decide +kernel
theorem kv_La_117 : mx_cvb "PegBoardsLaw" 117 mY_Mo_moves = true := by decide +kernel
theorem kd_Mo_pegs : mx_cdb mY_Mo_pegs 1 = true := by decide +kernel
theorem kv_Mo_145 : mx_cvb "PegBoardsModel" 145 mY_Mo_pegs = true := by decide +kernel
theorem kd_Mo_spread : mx_cdb mY_Mo_spread 1 = true := by decide +kernel
theorem kv_Mo_148 : mx_cvb "PegBoardsModel" 148 mY_Mo_spread = true := by decide +kernel
theorem kd_Mo_classes : mx_cdb mY_Mo_classes 1 = true := by decide +kernel
theorem kv_La_120 : mx_cvb "PegBoardsLaw" 120 mY_Mo_classes = true := by decide +kernel
theorem kd_Mo_leastOf : mx_cdb mY_Mo_leastOf 1 = true := by decide +kernel
theorem kv_Mo_158 : mx_cvb "PegBoardsModel" 158 mY_Mo_leastOf = true := by decide +kernel
theorem kd_Mo_imaged : mx_cdb mY_Mo_imaged 2 = true := by decide +kernel
theorem kv_Mo_152 : mx_cvb "PegBoardsModel" 152 mY_Mo_imaged = true := by decide +kernel
theorem kd_Mo_symmetries : mx_cdb mY_Mo_symmetries 0 = true := by decide +kernel
theorem kv_La_124 : mx_cvb "PegBoardsLaw" 124 mY_Mo_symmetries = true := by decide +kernel
theorem kd_Mo_image : mx_cdb mY_Mo_image 2 = true := by decide +kernel
theorem kv_La_127 : mx_cvb "PegBoardsLaw" 127 mY_Mo_image = true := by decide +kernel
theorem kd_Mo_noHole : mx_cdb mY_Mo_noHole 1 = true := by decide +kernel
theorem kv_Mo_161 : mx_cvb "PegBoardsModel" 161 mY_Mo_noHole = true := by decide +kernel
theorem kd_Mo_least : mx_cdb mY_Mo_least 1 = true := by decide +kernel
theorem kv_La_130 : mx_cvb "PegBoardsLaw" 130 mY_Mo_least = true := by decide +kernel
theorem kd_Mo_parity : mx_cdb mY_Mo_parity 1 = true := by decide +kernel
theorem kv_La_133 : mx_cvb "PegBoardsLaw" 133 mY_Mo_parity = true := by decide +kernel
theorem kd_Mo_weight : mx_cdb mY_Mo_weight 2 = true := by decide +kernel
theorem kv_La_137 : mx_cvb "PegBoardsLaw" 137 mY_Mo_weight = true := by decide +kernel
theorem kd_Mo_weights : mx_cdb mY_Mo_weights 1 = true := by decide +kernel
theorem kv_La_140 : mx_cvb "PegBoardsLaw" 140 mY_Mo_weights = true := by decide +kernel
theorem kd_Mo_holding : mx_cdb mY_Mo_holding 0 = true := by decide +kernel
theorem kv_Mo_164 : mx_cvb "PegBoardsModel" 164 mY_Mo_holding = true := by decide +kernel
theorem kd_Mo_sumOf : mx_cdb mY_Mo_sumOf 1 = true := by decide +kernel
theorem kv_Mo_168 : mx_cvb "PegBoardsModel" 168 mY_Mo_sumOf = true := by decide +kernel
theorem kd_Mo_find : mx_cdb mY_Mo_find 0 = true := by decide +kernel
theorem kv_La_143 : mx_cvb "PegBoardsLaw" 143 mY_Mo_find = true := by decide +kernel
theorem kd_Mo_fits : mx_cdb mY_Mo_fits 0 = true := by decide +kernel
theorem kv_Mo_171 : mx_cvb "PegBoardsModel" 171 mY_Mo_fits = true := by decide +kernel
